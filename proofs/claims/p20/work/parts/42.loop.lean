/-! ===== the law: its start and its loop ===== -/
theorem fill_s {k : Nat} {f : AI} (h : ∀ j, j < k → f j = -1) : ∀ j, j < k + 1 → upd f k (-1) j = -1 := by
  intro j hj
  unfold upd
  by_cases e : j = k
  · rw [if_pos e]
  · rw [if_neg e]; exact h j (by omega)
set_option maxHeartbeats 4000000 in
set_option maxRecDepth 100000 in
theorem sg_start {p : Program} {l : Launch} {e : Env} {s : State} {m : MethodId} {below : List Frame} {meth : Method} {c : Code} {Q : State → Prop} {b L : Nat} {xs : Nat → Int32} {D : va_G} {K : Nat → ClassId} {g : Nat → Nat} {o1 o2 : Nat} {u : CU} {fw hw : AI} {n N tt : Nat} {H : Heap} {locs : List Loc} {ls : Array Slot} {cells slots : Nat} (C : LC p l s m meth c b L xs D K) (J : LD s g o1 o2) (I : LI D K g o1 o2 u fw hw H) (hS : va_S (A0 s) s.heap H locs) (hcr : cells + 12 ≤ room_1.cells) (hsr : slots + 60 ≤ room_1.slots) (hl : lv_has ls 17 [(3, .ref o2), (2, .ref o1), (1, .ref (g 0)), (0, .ref b)]) (h00 : ∀ f : AI, (∀ j, j < 6 → f j = -1) → LZ 0 u 0 f hw) (kk : ∀ (tz : Nat) (ff : AI), tz ≤ 340 → LZ 0 u 0 ff hw → ∀ (H1 : Heap) (locs1 : List Loc) (ls1 : Array Slot), LI D K g o1 o2 u ff hw H1 → va_S (A0 s) s.heap H1 locs1 → lv_has ls1 17 [(7, .int (nI 0)), (6, .int (nI tz)), (5, .int (nI 0)), (4, .int 1), (3, .ref o2), (2, .ref o1), (1, .ref (g 0)), (0, .ref b)] → W p l e room_1 s m #[.ref b] below meth c H1 locs1 cells slots Q (F0 m 83 ls1 [])) : W p l e room_1 s m #[.ref b] below meth c H locs cells slots Q (F0 m 18 ls []) := by
  obtain ⟨hx, hb, hml, hown, hts⟩ := C.1
  have hfl := C.2.2.2
  have hL9 := C.2.1.2.2
  refine lv_iconst (v := 0) hx hb dL_law_18 (by decide) ?_
  refine lv_istore (lv' := [(4, .int 0), (3, .ref o2), (2, .ref o1), (1, .ref (g 0)), (0, .ref b)]) hx hb dL_law_19 hl (by decide) rfl (fun ls hl => ?_)
  have loop21 : ∀ (n21 : Nat) (k6 : Nat) (ff : AI), (k6 ≤ 6) → (∀ j, j < k6 → ff j = -1) → 6 - k6 < n21 → ∀ (H : Heap) (locs : List Loc), LI D K g o1 o2 u ff hw H → va_S (A0 s) s.heap H locs → ∀ (ls : Array Slot), lv_has ls 17 [(4, .int (nI k6)), (3, .ref o2), (2, .ref o1), (1, .ref (g 0)), (0, .ref b)] → W p l e room_1 s m #[.ref b] below meth c H locs cells slots Q (F0 m 21 ls []) := by
    intro n21
    induction n21 with
    | zero =>
      intro k6 ff hk6 hff hn21
      exact absurd hn21 (Nat.not_lt_zero _)
    | succ n21 ih21 =>
      intro k6 ff hk6 hff hn21 H locs I hS ls hl
      refine lv_iload hx hb dL_law_21 (lv_at hl 0 rfl) ?_
      refine lv_bipush (v := 6) hx hb dL_law_23 (by decide) ?_
      refine lv_icmp_ge (tgt := 39) hx hb dL_law_25 (by decide) (fun c1 => ?_) (fun c1 => ?_)
      · skip
        have e6 : k6 = 6 := by have := nge_i (a := k6) (b := 6) (by omega) (by omega) c1; omega
        subst e6
        refine lv_aload_n hx hb dL_law_39 rfl (lv_at hl 3 rfl) ?_
        refine lsI (As := [.ref (g 0)]) (rest := []) C J I hS (lz_arePages (h00 ff hff) (gd_Lg J.1.1)) (va_cwS 1 hts gL_law_L_arePages rfl rfl rfl hdL_arePages.2 ⟨Nat.le_of_ble_eq_true rfl, Nat.le_of_ble_eq_true rfl⟩) rfl rfl rfl hl.1 rfl (Nat.le_of_ble_eq_true rfl) dL_law_40 ⟨Nat.le_trans (Nat.le_add_right _ _) hcr, Nat.le_trans (Nat.le_add_right _ _) hsr⟩ (fun H locs I hS => ?_)
        refine lv_istore (lv' := [(4, .int 1), (3, .ref o2), (2, .ref o1), (1, .ref (g 0)), (0, .ref b)]) hx hb dL_law_43 hl (by decide) rfl (fun ls hl => ?_)
        refine lv_iconst (v := 0) hx hb dL_law_45 (by decide) ?_
        refine tpi (y := nI 0) rfl ?_
        refine lv_istore (lv' := [(5, .int (nI 0)), (4, .int 1), (3, .ref o2), (2, .ref o1), (1, .ref (g 0)), (0, .ref b)]) hx hb dL_law_46 hl (by decide) rfl (fun ls hl => ?_)
        have j78 : ∀ (tz : Nat) (htz : tz ≤ 340), W p l e room_1 s m #[.ref b] below meth c H locs cells slots Q (F0 m 78 ls [.int (nI tz)]) := by
          intro tz htz
          refine lv_istore (lv' := [(6, .int (nI tz)), (5, .int (nI 0)), (4, .int 1), (3, .ref o2), (2, .ref o1), (1, .ref (g 0)), (0, .ref b)]) hx hb dL_law_78 hl (by decide) rfl (fun ls hl => ?_)
          refine lv_iconst (v := 0) hx hb dL_law_80 (by decide) ?_
          refine tpi (y := nI 0) rfl ?_
          refine lv_istore (lv' := [(7, .int (nI 0)), (6, .int (nI tz)), (5, .int (nI 0)), (4, .int 1), (3, .ref o2), (2, .ref o1), (1, .ref (g 0)), (0, .ref b)]) hx hb dL_law_81 hl (by decide) rfl (fun ls hl => ?_)
          exact kk tz ff htz (h00 ff hff) H locs ls I hS (lv_sub hl [0, 1, 2, 3, 4, 5, 6, 7] rfl)
        refine lv_aload_n hx hb dL_law_48 rfl (lv_at hl 5 rfl) ?_
        refine sln C hS dL_law_49 ?_
        refine lv_bipush (v := 40) hx hb dL_law_50 (by decide) ?_
        refine lv_icmp_ge (tgt := 61) hx hb dL_law_52 (by decide) (fun c2 => ?_) (fun c2 => ?_)
        · skip
          refine lv_aload_n hx hb dL_law_61 rfl (lv_at hl 5 rfl) ?_
          refine sln C hS dL_law_62 ?_
          refine lv_bipush (v := 80) hx hb dL_law_63 (by decide) ?_
          refine lv_icmp_ge (tgt := 75) hx hb dL_law_65 (by decide) (fun c3 => ?_) (fun c3 => ?_)
          · skip
            refine lv_sipush (v := 340) hx hb dL_law_75 (by decide) ?_
            refine tpi (y := nI 340) rfl ?_
            exact j78 340 (by omega)
          · skip
            have hL80 : L < 80 := nlt_i (a := L) (b := 80) (by omega) (by omega) c3
            refine lv_iconst (v := 4) hx hb dL_law_68 (by decide) ?_
            refine lv_aload_n hx hb dL_law_69 rfl (lv_at hl 5 rfl) ?_
            refine sln C hS dL_law_70 ?_
            refine lv_imul hx hb dL_law_71 ?_
            refine tpi (y := nI (4 * L)) (pk_mul 4 L) ?_
            refine lv_goto (tgt := 78) hx hb dL_law_72 (by decide) ?_
            exact j78 (4 * L) (by omega)
        · skip
          refine lv_sipush (v := 180) hx hb dL_law_55 (by decide) ?_
          refine tpi (y := nI 180) rfl ?_
          refine lv_goto (tgt := 78) hx hb dL_law_58 (by decide) ?_
          exact j78 180 (by omega)
      · skip
        have hlt : k6 < 6 := nlt_i (a := k6) (b := 6) (by omega) (by omega) c1
        refine lv_aload_n hx hb dL_law_28 rfl (lv_at hl 2 rfl) ?_
        refine lv_iload hx hb dL_law_29 (lv_at hl 0 rfl) ?_
        refine lv_iconst (v := (-1)) hx hb dL_law_31 (by decide) ?_
        refine wst C J I hS (j := k6) (by omega) rfl dL_law_32 (fun H locs I hS => ?_)
        refine lv_iinc (v := nI (k6 + 1)) (lv' := [(4, .int (nI (k6 + 1))), (3, .ref o2), (2, .ref o1), (1, .ref (g 0)), (0, .ref b)]) hx hb dL_law_33 hl (k := 0) rfl (nI_1 k6) (by decide) rfl (fun ls hl => ?_)
        refine lv_goto (tgt := 21) hx hb dL_law_36 (by decide) ?_
        exact ih21 (k6 + 1) (upd ff k6 (-1)) hlt (fill_s hff) (ms_s hlt hn21) _ _ I hS ls (lv_sub hl [0, 1, 2, 3, 4] rfl)
  exact loop21 _ 0 fw (by omega) (fun j hj => absurd hj (Nat.not_lt_zero j)) (Nat.lt_succ_self _) _ _ I hS ls (lv_sub hl [0, 1, 2, 3, 4] rfl)
set_option maxHeartbeats 4000000 in
set_option maxRecDepth 100000 in
theorem law_loop {p : Program} {l : Launch} {e : Env} {s : State} {m : MethodId} {below : List Frame} {meth : Method} {c : Code} {Q : State → Prop} {b L : Nat} {xs : Nat → Int32} {D : va_G} {K : Nat → ClassId} {g : Nat → Nat} {o1 o2 tt : Nat} (C : LC p l s m meth c b L xs D K) (J : LD s g o1 o2) (htt : tt ≤ 340) (hend : ∀ (H : Heap) (ls : Array Slot), W p l e room_1 s m #[.ref b] below meth c H [] 650680 7149427 Q (F0 m 1143 ls [.int 1])) : ∀ (r n : Nat) (u : CU) (N : Nat) (fw hw : AI), LZ n u N fw hw → 341 - n < r → n ≤ 340 → ∀ (H : Heap) (locs : List Loc) (ls : Array Slot), LI D K g o1 o2 u fw hw H → va_S (A0 s) s.heap H locs → lv_has ls 17 [(7, .int (nI n)), (6, .int (nI tt)), (5, .int (nI N)), (4, .int 1), (3, .ref o2), (2, .ref o1), (1, .ref (g 0)), (0, .ref b)] → W p l e room_1 s m #[.ref b] below meth c H locs (100 + 12 * n) (5000 + 60 * n) Q (F0 m 83 ls []) := by
  intro r
  induction r with
  | zero =>
    intro n u N fw hw _ hr
    exact absurd hr (Nat.not_lt_zero _)
  | succ r ih =>
    intro n u N fw hw hL hr hn H locs ls I hS hl
    obtain ⟨hx, hb, hml, hown, hts⟩ := C.1
    refine lv_iload hx hb dL_law_83 (lv_at hl 0 rfl) ?_
    refine lv_iload hx hb dL_law_85 (lv_at hl 1 rfl) ?_
    refine lv_icmp_ge (tgt := 1141) hx hb dL_law_87 (by decide) (fun c1 => ?_) (fun c1 => ?_)
    · refine lv_iload hx hb dL_law_1141 (lv_at hl 3 rfl) ?_
      refine va_forget (fun q hq => A0_i.mp (hS.2.2 q hq)) ?_
      refine W.widen (k := 650680) (n := 7149427) (by omega) (by omega) ?_
      exact hend H ls
    · have hnt : n < tt := nlt_i (a := n) (b := tt) (by omega) (by omega) c1
      refine lv_iload hx hb dL_law_90 (lv_at hl 3 rfl) ?_
      refine lv_if_eq (tgt := 1141) hx hb dL_law_92 (by decide) (fun c2 => absurd c2 (by decide)) (fun c2 => ?_)
      have hcr : 100 + 12 * n + 12 ≤ room_1.cells := by show _ ≤ 650680; omega
      have hsr : 5000 + 60 * n + 60 ≤ room_1.slots := by show _ ≤ 7149427; omega
      have hcr2 : 100 + 12 * n + 12 + 12 ≤ room_1.cells := by show _ ≤ 650680; omega
      have hsr2 : 5000 + 60 * n + 60 + 60 ≤ room_1.slots := by show _ ≤ 7149427; omega
      refine sg_turn C J I hS hcr hsr hl hL (by omega) (fun yy aa hyy haa u2 N2 f2 h2 H1 locs1 ls1 hL2 I2 hS2 hl2 => ?_)
      refine sg_check C J I2 hS2 hcr2 hsr2 hl2 hL2 (by omega) haa hyy (fun H3 locs3 ls3 I3 hS3 hl3 => ?_)
      have z9 := ih (n + 1) u2 N2 f2 h2 hL2 (by omega) (by omega) H3 locs3 ls3 I3 hS3 hl3
      rw [show 100 + 12 * (n + 1) = 100 + 12 * n + 12 by omega, show 5000 + 60 * (n + 1) = 5000 + 60 * n + 60 by omega] at z9
      exact z9

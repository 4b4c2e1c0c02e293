/-! ===== the law in pieces: begin, end, write, delete ===== -/
theorem m1_s (cc : Nat) : nI cc - 1 + 1 = nI (cc + 1) - 1 := by rw [nI_pred, Int32.sub_add_cancel]
set_option maxHeartbeats 4000000 in
set_option maxRecDepth 100000 in
theorem sg_begin {p : Program} {l : Launch} {e : Env} {s : State} {m : MethodId} {below : List Frame} {meth : Method} {c : Code} {Q : State → Prop} {b L : Nat} {xs : Nat → Int32} {D : va_G} {K : Nat → ClassId} {g : Nat → Nat} {o1 o2 : Nat} {u : CU} {fw hw : AI} {n N tt : Nat} {H : Heap} {locs : List Loc} {ls : Array Slot} {cells slots : Nat} {yy aa ky : Nat} (C : LC p l s m meth c b L xs D K) (J : LD s g o1 o2) (I : LI D K g o1 o2 u fw hw H) (hS : va_S (A0 s) s.heap H locs) (hcr : cells + 12 ≤ room_1.cells) (hsr : slots + 60 ≤ room_1.slots) (hl : lv_has ls 17 [(12, .int (nI ky)), (11, .int (nI aa)), (9, .int (nI yy)), (7, .int (nI n)), (6, .int (nI tt)), (5, .int (nI N)), (4, .int 1), (3, .ref o2), (2, .ref o1), (1, .ref (g 0)), (0, .ref b)]) (hL : LZ n u N fw hw) (hn : n < 340) (haa : aa < 6) (hyy : yy < 268435456) (hky : ky < 6) (kk : ∀ (u2 : CU) (N2 : Nat) (f2 h2 : AI) (H1 : Heap) (locs1 : List Loc) (ls1 : Array Slot), LZ (n + 1) u2 N2 f2 h2 → LI D K g o1 o2 u2 f2 h2 H1 → va_S (A0 s) s.heap H1 locs1 → lv_has ls1 17 [(11, .int (nI aa)), (9, .int (nI yy)), (7, .int (nI n)), (6, .int (nI tt)), (5, .int (nI N2)), (4, .int 1), (3, .ref o2), (2, .ref o1), (1, .ref (g 0)), (0, .ref b)] → W p l e room_1 s m #[.ref b] below meth c H1 locs1 (cells + 12) (slots + 60) Q (F0 m 983 ls1 [])) : W p l e room_1 s m #[.ref b] below meth c H locs cells slots Q (F0 m 214 ls []) := by
  obtain ⟨hx, hb, hml, hown, hts⟩ := C.1
  have hfl := C.2.2.2
  obtain ⟨h60, hcn⟩ := lz_N hL
  obtain ⟨oa, oa64, hoa⟩ := lz_oldest hL
  refine lv_iconst (v := (-1)) hx hb dL_law_214 (by decide) ?_
  refine lv_istore (lv' := [(13, .int (-1)), (12, .int (nI ky)), (11, .int (nI aa)), (9, .int (nI yy)), (7, .int (nI n)), (6, .int (nI tt)), (5, .int (nI N)), (4, .int 1), (3, .ref o2), (2, .ref o1), (1, .ref (g 0)), (0, .ref b)]) hx hb dL_law_215 hl (by decide) rfl (fun ls hl => ?_)
  refine lv_iconst (v := 0) hx hb dL_law_217 (by decide) ?_
  refine lv_istore (lv' := [(14, .int 0), (13, .int (-1)), (12, .int (nI ky)), (11, .int (nI aa)), (9, .int (nI yy)), (7, .int (nI n)), (6, .int (nI tt)), (5, .int (nI N)), (4, .int 1), (3, .ref o2), (2, .ref o1), (1, .ref (g 0)), (0, .ref b)]) hx hb dL_law_218 hl (by decide) rfl (fun ls hl => ?_)
  have loop220 : ∀ (n220 : Nat) (k6 : Nat) (fr : Int32), (k6 ≤ 6) → (fr = -1 ∨ ∃ j, j < 6 ∧ fr = nI j ∧ fw j < 0) → 6 - k6 < n220 → ∀ (H : Heap) (locs : List Loc), LI D K g o1 o2 u fw hw H → va_S (A0 s) s.heap H locs → ∀ (ls : Array Slot), lv_has ls 17 [(14, .int (nI k6)), (13, .int fr), (12, .int (nI ky)), (11, .int (nI aa)), (9, .int (nI yy)), (7, .int (nI n)), (6, .int (nI tt)), (5, .int (nI N)), (4, .int 1), (3, .ref o2), (2, .ref o1), (1, .ref (g 0)), (0, .ref b)] → W p l e room_1 s m #[.ref b] below meth c H locs cells slots Q (F0 m 220 ls []) := by
    intro n220
    induction n220 with
    | zero =>
      intro k6 fr hk6 hfr hn220
      exact absurd hn220 (Nat.not_lt_zero _)
    | succ n220 ih220 =>
      intro k6 fr hk6 hfr hn220 H locs I hS ls hl
      refine lv_iload hx hb dL_law_220 (lv_at hl 0 rfl) ?_
      refine lv_bipush (v := 6) hx hb dL_law_222 (by decide) ?_
      refine lv_icmp_ge (tgt := 249) hx hb dL_law_224 (by decide) (fun c1 => ?_) (fun c1 => ?_)
      · skip
        have e6 : k6 = 6 := by have := nge_i (a := k6) (b := 6) (by omega) (by omega) c1; omega
        subst e6
        refine lv_iload hx hb dL_law_249 (lv_at hl 1 rfl) ?_
        refine lv_if_lt (tgt := 368) hx hb dL_law_251 (by decide) (fun c2 => ?_) (fun c2 => ?_)
        · skip
          refine lv_goto (tgt := 983) hx hb dL_law_368 (by decide) ?_
          refine W.widen (k := cells + 12) (n := slots + 60) (Nat.le_add_right _ _) (Nat.le_add_right _ _) ?_
          exact kk _ _ _ _ H locs ls (lz_up hL) I hS (lv_sub hl [3, 4, 5, 6, 7, 8, 9, 10, 11, 12] rfl)
        · skip
          obtain ⟨jj, hjj, ejj, hfj⟩ := hfr.resolve_left (fun z => c2 (m1_lt z))
          subst ejj
          refine lv_aload_n hx hb dL_law_254 rfl (lv_at hl 11 rfl) ?_
          refine lcI (As := []) (rest := []) C J I hS (kX4_oldest (gd_Lg J.1.1) u N h60 hcn) (cwV 0 hts gL_law_X4_oldest rfl rfl rfl hdX4_oldest ⟨Nat.le_of_ble_eq_true rfl, Nat.le_of_ble_eq_true rfl⟩) rfl rfl rfl hl.1 rfl (Nat.le_of_ble_eq_true rfl) dL_law_255 ⟨Nat.le_trans (Nat.le_add_right _ _) hcr, Nat.le_trans (Nat.le_add_right _ _) hsr⟩ (fun H locs I hS => ?_)
          refine tpi (y := nI oa) hoa ?_
          refine lv_istore (lv' := [(14, .int (nI oa)), (13, .int (nI jj)), (12, .int (nI ky)), (11, .int (nI aa)), (9, .int (nI yy)), (7, .int (nI n)), (6, .int (nI tt)), (5, .int (nI N)), (4, .int 1), (3, .ref o2), (2, .ref o1), (1, .ref (g 0)), (0, .ref b)]) hx hb dL_law_258 hl (by decide) rfl (fun ls hl => ?_)
          by_cases hc9 : N < 60 ∧ oa < 28
          · skip
            have ho28 : olg u N 32 < 28 := by rw [hoa]; exact (nI_ltI (a := oa) (b := 28) (by omega) (by omega)).mpr hc9.2
            obtain ⟨gg, hgg, hL2⟩ := lz_begin hL hjj hfj hc9.1 ho28
            refine lv_aload_n hx hb dL_law_260 rfl (lv_at hl 11 rfl) ?_
            refine lwI (As := [.ref (g 0)]) (rest := []) C J I hS (lz_beginsY hL hc9.1 hoa hc9.2 (gd_Lg J.1.1) hfl) (vx_cwSW 1 hts gL_law_L_begins rfl rfl rfl hdL_begins.2 ⟨Nat.le_of_ble_eq_true rfl, Nat.le_of_ble_eq_true rfl⟩) rfl hl.1 rfl (Nat.le_of_ble_eq_true rfl) dL_law_261 ⟨Nat.le_trans (Nat.add_le_add_left (Nat.le_of_ble_eq_true rfl) cells) hcr, Nat.le_trans (Nat.add_le_add_left (Nat.le_of_ble_eq_true rfl) slots) hsr⟩ (fun H locs I hS => ?_)
            have hcr2 : cells + rmL_begins.cells ≤ room_1.cells := Nat.le_trans (Nat.add_le_add_left (Nat.le_of_ble_eq_true rfl) cells) hcr
            have hsr2 : slots + rmL_begins.slots ≤ room_1.slots := Nat.le_trans (Nat.add_le_add_left (Nat.le_of_ble_eq_true rfl) slots) hsr
            refine lv_istore (lv' := [(15, .int (nI N)), (14, .int (nI oa)), (13, .int (nI jj)), (12, .int (nI ky)), (11, .int (nI aa)), (9, .int (nI yy)), (7, .int (nI n)), (6, .int (nI tt)), (5, .int (nI N)), (4, .int 1), (3, .ref o2), (2, .ref o1), (1, .ref (g 0)), (0, .ref b)]) hx hb dL_law_264 hl (by decide) rfl (fun ls hl => ?_)
            refine lv_iload hx hb dL_law_266 (lv_at hl 0 rfl) ?_
            refine lv_iload hx hb dL_law_268 (lv_at hl 8 rfl) ?_
            refine lv_bipush (v := 60) hx hb dL_law_270 (by decide) ?_
            refine lv_icmp_ge (tgt := 287) hx hb dL_law_272 (by decide) (fun c3 => ?_) (fun c3 => ?_)
            · skip
              exact absurd (nge_i (a := N) (b := 60) (by omega) (by omega) c3) (by omega)
            · skip
              refine lv_iload hx hb dL_law_275 (lv_at hl 1 rfl) ?_
              refine lv_bipush (v := 28) hx hb dL_law_277 (by decide) ?_
              refine lv_icmp_ge (tgt := 287) hx hb dL_law_279 (by decide) (fun c4 => ?_) (fun c4 => ?_)
              · skip
                exact absurd (nge_i (a := oa) (b := 28) (by omega) (by omega) c4) (by omega)
              · skip
                refine lv_iload hx hb dL_law_282 (lv_at hl 8 rfl) ?_
                refine lv_goto (tgt := 289) hx hb dL_law_284 (by decide) ?_
                refine lv_icmp_ne (tgt := 296) hx hb dL_law_289 (by decide) (fun c5 => ?_) (fun c5 => ?_)
                · skip
                  exact absurd rfl c5
                · skip
                  refine lv_iconst (v := 1) hx hb dL_law_292 (by decide) ?_
                  refine lv_goto (tgt := 297) hx hb dL_law_293 (by decide) ?_
                  refine lv_istore (lv' := [(4, .int 1), (15, .int (nI N)), (14, .int (nI oa)), (13, .int (nI jj)), (12, .int (nI ky)), (11, .int (nI aa)), (9, .int (nI yy)), (7, .int (nI n)), (6, .int (nI tt)), (5, .int (nI N)), (3, .ref o2), (2, .ref o1), (1, .ref (g 0)), (0, .ref b)]) hx hb dL_law_297 hl (by decide) rfl (fun ls hl => ?_)
                  refine lv_iload hx hb dL_law_299 (lv_at hl 9 rfl) ?_
                  refine lv_iload hx hb dL_law_301 (lv_at hl 1 rfl) ?_
                  refine lv_if_lt (tgt := 310) hx hb dL_law_303 (by decide) (fun c6 => ?_) (fun c6 => ?_)
                  · skip
                    exact absurd c6 (nI_pos (by omega))
                  · skip
                    refine lv_iconst (v := 1) hx hb dL_law_306 (by decide) ?_
                    refine lv_goto (tgt := 311) hx hb dL_law_307 (by decide) ?_
                    refine lv_iadd hx hb dL_law_311 ?_
                    refine tpi (y := nI (N + 1)) (nI_1 N) ?_
                    refine lv_istore (lv' := [(5, .int (nI (N + 1))), (4, .int 1), (15, .int (nI N)), (14, .int (nI oa)), (13, .int (nI jj)), (12, .int (nI ky)), (11, .int (nI aa)), (9, .int (nI yy)), (7, .int (nI n)), (6, .int (nI tt)), (3, .ref o2), (2, .ref o1), (1, .ref (g 0)), (0, .ref b)]) hx hb dL_law_312 hl (by decide) rfl (fun ls hl => ?_)
                    refine lv_aload_n hx hb dL_law_314 rfl (lv_at hl 11 rfl) ?_
                    refine lv_iload hx hb dL_law_315 (lv_at hl 4 rfl) ?_
                    refine lv_iload hx hb dL_law_317 (lv_at hl 2 rfl) ?_
                    refine lv_if_lt (tgt := 327) hx hb dL_law_319 (by decide) (fun c7 => ?_) (fun c7 => ?_)
                    · skip
                      exact absurd c7 (nI_pos (by omega))
                    · skip
                      refine lv_iload hx hb dL_law_322 (lv_at hl 2 rfl) ?_
                      refine lv_goto (tgt := 328) hx hb dL_law_324 (by decide) ?_
                      refine wst C J I hS (j := jj) (by omega) rfl dL_law_328 (fun H locs I hS => ?_)
                      refine lv_iconst (v := 0) hx hb dL_law_329 (by decide) ?_
                      refine lv_istore (lv' := [(16, .int 0), (5, .int (nI (N + 1))), (4, .int 1), (15, .int (nI N)), (14, .int (nI oa)), (13, .int (nI jj)), (12, .int (nI ky)), (11, .int (nI aa)), (9, .int (nI yy)), (7, .int (nI n)), (6, .int (nI tt)), (3, .ref o2), (2, .ref o1), (1, .ref (g 0)), (0, .ref b)]) hx hb dL_law_330 hl (by decide) rfl (fun ls hl => ?_)
                      have loop332 : ∀ (n332 : Nat) (k6 : Nat), (k6 ≤ 6) → 6 - k6 < n332 → ∀ (H : Heap) (locs : List Loc), LI D K g o1 o2 (cst u N) (upd fw jj (nI N)) (fb_put hw gg (6 * jj) k6) H → va_S (A0 s) s.heap H locs → ∀ (ls : Array Slot), lv_has ls 17 [(16, .int (nI k6)), (5, .int (nI (N + 1))), (4, .int 1), (15, .int (nI N)), (14, .int (nI oa)), (13, .int (nI jj)), (12, .int (nI ky)), (11, .int (nI aa)), (9, .int (nI yy)), (7, .int (nI n)), (6, .int (nI tt)), (3, .ref o2), (2, .ref o1), (1, .ref (g 0)), (0, .ref b)] → W p l e room_1 s m #[.ref b] below meth c H locs (cells + rmL_begins.cells) (slots + rmL_begins.slots) Q (F0 m 332 ls []) := by
                        intro n332
                        induction n332 with
                        | zero =>
                          intro k6 hk6 hn332
                          exact absurd hn332 (Nat.not_lt_zero _)
                        | succ n332 ih332 =>
                          intro k6 hk6 hn332 H locs I hS ls hl
                          refine lv_iload hx hb dL_law_332 (lv_at hl 0 rfl) ?_
                          refine lv_bipush (v := 6) hx hb dL_law_334 (by decide) ?_
                          refine lv_icmp_ge (tgt := 368) hx hb dL_law_336 (by decide) (fun c8 => ?_) (fun c8 => ?_)
                          · skip
                            have e6 : k6 = 6 := by have := nge_i (a := k6) (b := 6) (by omega) (by omega) c8; omega
                            subst e6
                            refine lv_goto (tgt := 983) hx hb dL_law_368 (by decide) ?_
                            refine W.widen (k := cells + 12) (n := slots + 60) (Nat.add_le_add_left (Nat.le_of_ble_eq_true rfl) cells) (Nat.add_le_add_left (Nat.le_of_ble_eq_true rfl) slots) ?_
                            exact kk _ _ _ _ H locs ls hL2 I hS (lv_sub hl [7, 8, 9, 10, 1, 2, 11, 12, 13, 14] rfl)
                          · skip
                            have hlt : k6 < 6 := nlt_i (a := k6) (b := 6) (by omega) (by omega) c8
                            refine lv_iload hx hb dL_law_339 (lv_at hl 3 rfl) ?_
                            refine lv_if_lt (tgt := 368) hx hb dL_law_341 (by decide) (fun c9 => ?_) (fun c9 => ?_)
                            · skip
                              exact absurd c9 (nI_pos (by omega))
                            · skip
                              refine lv_aload_n hx hb dL_law_344 rfl (lv_at hl 11 rfl) ?_
                              refine lv_bipush (v := 6) hx hb dL_law_345 (by decide) ?_
                              refine lv_iload hx hb dL_law_347 (lv_at hl 5 rfl) ?_
                              refine lv_imul hx hb dL_law_349 ?_
                              refine tpi (y := nI (6 * jj)) (pk_mul 6 jj) ?_
                              refine lv_iload hx hb dL_law_350 (lv_at hl 0 rfl) ?_
                              refine lv_iadd hx hb dL_law_352 ?_
                              refine tpi (y := nI (6 * jj + k6)) (nI_add (6 * jj) k6) ?_
                              refine lv_aload_n hx hb dL_law_353 rfl (lv_at hl 13 rfl) ?_
                              refine lv_iload hx hb dL_law_354 (lv_at hl 3 rfl) ?_
                              refine lv_iload hx hb dL_law_356 (lv_at hl 0 rfl) ?_
                              refine lcI (As := [.int (nI N), .int (nI k6)]) (rest := [.int (nI (6 * jj + k6)), .ref o2]) C J I hS (lz_read1 hL hc9.1 ho28 hlt (gd_Lg J.1.1)) (cwV 2 hts gL_law_X4_read rfl rfl rfl hdX4_read ⟨Nat.le_of_ble_eq_true rfl, Nat.le_of_ble_eq_true rfl⟩) rfl rfl rfl hl.1 rfl (Nat.le_of_ble_eq_true rfl) dL_law_358 ⟨hcr2, hsr2⟩ (fun H locs I hS => ?_)
                              refine tpi (y := gg k6) ((hgg k6 hlt).symm) ?_
                              refine hst C J I hS (j := (6 * jj + k6)) (by omega) rfl dL_law_361 (fun H locs I hS => ?_)
                              refine lv_iinc (v := nI (k6 + 1)) (lv' := [(16, .int (nI (k6 + 1))), (5, .int (nI (N + 1))), (4, .int 1), (15, .int (nI N)), (14, .int (nI oa)), (13, .int (nI jj)), (12, .int (nI ky)), (11, .int (nI aa)), (9, .int (nI yy)), (7, .int (nI n)), (6, .int (nI tt)), (3, .ref o2), (2, .ref o1), (1, .ref (g 0)), (0, .ref b)]) hx hb dL_law_362 hl (k := 0) rfl (nI_1 k6) (by decide) rfl (fun ls hl => ?_)
                              refine lv_goto (tgt := 332) hx hb dL_law_365 (by decide) ?_
                              exact ih332 (k6 + 1) hlt (ms_s hlt hn332) _ _ (by rw [← fb_put_succ]; exact I) hS ls (lv_sub hl [0, 1, 2, 3, 4, 5, 6, 7, 8, 9, 10, 11, 12, 13, 14] rfl)
                      exact loop332 _ 0 (by omega) (Nat.lt_succ_self _) _ _ (by rw [fb_put_0]; exact I) hS ls (lv_sub hl [0, 1, 2, 3, 4, 5, 6, 7, 8, 9, 10, 11, 12, 13, 14] rfl)
          · skip
            refine lv_aload_n hx hb dL_law_260 rfl (lv_at hl 11 rfl) ?_
            refine lwI (As := [.ref (g 0)]) (rest := []) C J I hS (lz_beginsN hL oa64 hoa hc9 (gd_Lg J.1.1) hfl) (vx_cwSW 1 hts gL_law_L_begins rfl rfl rfl hdL_begins.2 ⟨Nat.le_of_ble_eq_true rfl, Nat.le_of_ble_eq_true rfl⟩) rfl hl.1 rfl (Nat.le_of_ble_eq_true rfl) dL_law_261 ⟨Nat.le_trans (Nat.add_le_add_left (Nat.le_of_ble_eq_true rfl) cells) hcr, Nat.le_trans (Nat.add_le_add_left (Nat.le_of_ble_eq_true rfl) slots) hsr⟩ (fun H locs I hS => ?_)
            have hcr2 : cells + rmL_begins.cells ≤ room_1.cells := Nat.le_trans (Nat.add_le_add_left (Nat.le_of_ble_eq_true rfl) cells) hcr
            have hsr2 : slots + rmL_begins.slots ≤ room_1.slots := Nat.le_trans (Nat.add_le_add_left (Nat.le_of_ble_eq_true rfl) slots) hsr
            refine lv_istore (lv' := [(15, .int (-3)), (14, .int (nI oa)), (13, .int (nI jj)), (12, .int (nI ky)), (11, .int (nI aa)), (9, .int (nI yy)), (7, .int (nI n)), (6, .int (nI tt)), (5, .int (nI N)), (4, .int 1), (3, .ref o2), (2, .ref o1), (1, .ref (g 0)), (0, .ref b)]) hx hb dL_law_264 hl (by decide) rfl (fun ls hl => ?_)
            refine lv_iload hx hb dL_law_266 (lv_at hl 0 rfl) ?_
            refine lv_iload hx hb dL_law_268 (lv_at hl 8 rfl) ?_
            refine lv_bipush (v := 60) hx hb dL_law_270 (by decide) ?_
            refine lv_icmp_ge (tgt := 287) hx hb dL_law_272 (by decide) (fun c10 => ?_) (fun c10 => ?_)
            · skip
              refine lv_bipush (v := (-3)) hx hb dL_law_287 (by decide) ?_
              refine lv_icmp_ne (tgt := 296) hx hb dL_law_289 (by decide) (fun c11 => ?_) (fun c11 => ?_)
              · skip
                exact (by first | exact absurd c11 (by decide) | exact absurd rfl c11)
              · skip
                refine lv_iconst (v := 1) hx hb dL_law_292 (by decide) ?_
                refine lv_goto (tgt := 297) hx hb dL_law_293 (by decide) ?_
                refine lv_istore (lv' := [(4, .int 1), (15, .int (-3)), (14, .int (nI oa)), (13, .int (nI jj)), (12, .int (nI ky)), (11, .int (nI aa)), (9, .int (nI yy)), (7, .int (nI n)), (6, .int (nI tt)), (5, .int (nI N)), (3, .ref o2), (2, .ref o1), (1, .ref (g 0)), (0, .ref b)]) hx hb dL_law_297 hl (by decide) rfl (fun ls hl => ?_)
                refine lv_iload hx hb dL_law_299 (lv_at hl 9 rfl) ?_
                refine lv_iload hx hb dL_law_301 (lv_at hl 1 rfl) ?_
                refine lv_if_lt (tgt := 310) hx hb dL_law_303 (by decide) (fun c12 => ?_) (fun c12 => ?_)
                · skip
                  refine lv_iconst (v := 0) hx hb dL_law_310 (by decide) ?_
                  refine lv_iadd hx hb dL_law_311 ?_
                  refine tpi (y := nI N) (Int32.add_zero (nI N)) ?_
                  refine lv_istore (lv' := [(5, .int (nI N)), (4, .int 1), (15, .int (-3)), (14, .int (nI oa)), (13, .int (nI jj)), (12, .int (nI ky)), (11, .int (nI aa)), (9, .int (nI yy)), (7, .int (nI n)), (6, .int (nI tt)), (3, .ref o2), (2, .ref o1), (1, .ref (g 0)), (0, .ref b)]) hx hb dL_law_312 hl (by decide) rfl (fun ls hl => ?_)
                  refine lv_aload_n hx hb dL_law_314 rfl (lv_at hl 11 rfl) ?_
                  refine lv_iload hx hb dL_law_315 (lv_at hl 4 rfl) ?_
                  refine lv_iload hx hb dL_law_317 (lv_at hl 2 rfl) ?_
                  refine lv_if_lt (tgt := 327) hx hb dL_law_319 (by decide) (fun c13 => ?_) (fun c13 => ?_)
                  · skip
                    refine lv_iconst (v := (-1)) hx hb dL_law_327 (by decide) ?_
                    refine wst C J I hS (j := jj) (by omega) rfl dL_law_328 (fun H locs I hS => ?_)
                    refine lv_iconst (v := 0) hx hb dL_law_329 (by decide) ?_
                    refine lv_istore (lv' := [(16, .int 0), (5, .int (nI N)), (4, .int 1), (15, .int (-3)), (14, .int (nI oa)), (13, .int (nI jj)), (12, .int (nI ky)), (11, .int (nI aa)), (9, .int (nI yy)), (7, .int (nI n)), (6, .int (nI tt)), (3, .ref o2), (2, .ref o1), (1, .ref (g 0)), (0, .ref b)]) hx hb dL_law_330 hl (by decide) rfl (fun ls hl => ?_)
                    refine lv_iload hx hb dL_law_332 (lv_at hl 0 rfl) ?_
                    refine lv_bipush (v := 6) hx hb dL_law_334 (by decide) ?_
                    refine lv_icmp_ge (tgt := 368) hx hb dL_law_336 (by decide) (fun c14 => ?_) (fun c14 => ?_)
                    · skip
                      exact absurd c14 (by decide)
                    · skip
                      refine lv_iload hx hb dL_law_339 (lv_at hl 3 rfl) ?_
                      refine lv_if_lt (tgt := 368) hx hb dL_law_341 (by decide) (fun c15 => ?_) (fun c15 => ?_)
                      · skip
                        refine lv_goto (tgt := 983) hx hb dL_law_368 (by decide) ?_
                        refine W.widen (k := cells + 12) (n := slots + 60) (Nat.add_le_add_left (Nat.le_of_ble_eq_true rfl) cells) (Nat.add_le_add_left (Nat.le_of_ble_eq_true rfl) slots) ?_
                        exact kk _ _ _ _ H locs ls (lz_same hL hjj hfj) I hS (lv_sub hl [7, 8, 9, 10, 1, 2, 11, 12, 13, 14] rfl)
                      · skip
                        exact (by first | exact absurd c15 (by decide) | exact absurd (by decide) c15)
                  · skip
                    exact (by first | exact absurd c13 (by decide) | exact absurd (by decide) c13)
                · skip
                  exact (by first | exact absurd c12 (by decide) | exact absurd (by decide) c12)
            · skip
              have hN60 : N < 60 := nlt_i (a := N) (b := 60) (by omega) (by omega) c10
              refine lv_iload hx hb dL_law_275 (lv_at hl 1 rfl) ?_
              refine lv_bipush (v := 28) hx hb dL_law_277 (by decide) ?_
              refine lv_icmp_ge (tgt := 287) hx hb dL_law_279 (by decide) (fun c16 => ?_) (fun c16 => ?_)
              · skip
                refine lv_bipush (v := (-3)) hx hb dL_law_287 (by decide) ?_
                refine lv_icmp_ne (tgt := 296) hx hb dL_law_289 (by decide) (fun c17 => ?_) (fun c17 => ?_)
                · skip
                  exact (by first | exact absurd c17 (by decide) | exact absurd rfl c17)
                · skip
                  refine lv_iconst (v := 1) hx hb dL_law_292 (by decide) ?_
                  refine lv_goto (tgt := 297) hx hb dL_law_293 (by decide) ?_
                  refine lv_istore (lv' := [(4, .int 1), (15, .int (-3)), (14, .int (nI oa)), (13, .int (nI jj)), (12, .int (nI ky)), (11, .int (nI aa)), (9, .int (nI yy)), (7, .int (nI n)), (6, .int (nI tt)), (5, .int (nI N)), (3, .ref o2), (2, .ref o1), (1, .ref (g 0)), (0, .ref b)]) hx hb dL_law_297 hl (by decide) rfl (fun ls hl => ?_)
                  refine lv_iload hx hb dL_law_299 (lv_at hl 9 rfl) ?_
                  refine lv_iload hx hb dL_law_301 (lv_at hl 1 rfl) ?_
                  refine lv_if_lt (tgt := 310) hx hb dL_law_303 (by decide) (fun c18 => ?_) (fun c18 => ?_)
                  · skip
                    refine lv_iconst (v := 0) hx hb dL_law_310 (by decide) ?_
                    refine lv_iadd hx hb dL_law_311 ?_
                    refine tpi (y := nI N) (Int32.add_zero (nI N)) ?_
                    refine lv_istore (lv' := [(5, .int (nI N)), (4, .int 1), (15, .int (-3)), (14, .int (nI oa)), (13, .int (nI jj)), (12, .int (nI ky)), (11, .int (nI aa)), (9, .int (nI yy)), (7, .int (nI n)), (6, .int (nI tt)), (3, .ref o2), (2, .ref o1), (1, .ref (g 0)), (0, .ref b)]) hx hb dL_law_312 hl (by decide) rfl (fun ls hl => ?_)
                    refine lv_aload_n hx hb dL_law_314 rfl (lv_at hl 11 rfl) ?_
                    refine lv_iload hx hb dL_law_315 (lv_at hl 4 rfl) ?_
                    refine lv_iload hx hb dL_law_317 (lv_at hl 2 rfl) ?_
                    refine lv_if_lt (tgt := 327) hx hb dL_law_319 (by decide) (fun c19 => ?_) (fun c19 => ?_)
                    · skip
                      refine lv_iconst (v := (-1)) hx hb dL_law_327 (by decide) ?_
                      refine wst C J I hS (j := jj) (by omega) rfl dL_law_328 (fun H locs I hS => ?_)
                      refine lv_iconst (v := 0) hx hb dL_law_329 (by decide) ?_
                      refine lv_istore (lv' := [(16, .int 0), (5, .int (nI N)), (4, .int 1), (15, .int (-3)), (14, .int (nI oa)), (13, .int (nI jj)), (12, .int (nI ky)), (11, .int (nI aa)), (9, .int (nI yy)), (7, .int (nI n)), (6, .int (nI tt)), (3, .ref o2), (2, .ref o1), (1, .ref (g 0)), (0, .ref b)]) hx hb dL_law_330 hl (by decide) rfl (fun ls hl => ?_)
                      refine lv_iload hx hb dL_law_332 (lv_at hl 0 rfl) ?_
                      refine lv_bipush (v := 6) hx hb dL_law_334 (by decide) ?_
                      refine lv_icmp_ge (tgt := 368) hx hb dL_law_336 (by decide) (fun c20 => ?_) (fun c20 => ?_)
                      · skip
                        exact absurd c20 (by decide)
                      · skip
                        refine lv_iload hx hb dL_law_339 (lv_at hl 3 rfl) ?_
                        refine lv_if_lt (tgt := 368) hx hb dL_law_341 (by decide) (fun c21 => ?_) (fun c21 => ?_)
                        · skip
                          refine lv_goto (tgt := 983) hx hb dL_law_368 (by decide) ?_
                          refine W.widen (k := cells + 12) (n := slots + 60) (Nat.add_le_add_left (Nat.le_of_ble_eq_true rfl) cells) (Nat.add_le_add_left (Nat.le_of_ble_eq_true rfl) slots) ?_
                          exact kk _ _ _ _ H locs ls (lz_same hL hjj hfj) I hS (lv_sub hl [7, 8, 9, 10, 1, 2, 11, 12, 13, 14] rfl)
                        · skip
                          exact (by first | exact absurd c21 (by decide) | exact absurd (by decide) c21)
                    · skip
                      exact (by first | exact absurd c19 (by decide) | exact absurd (by decide) c19)
                  · skip
                    exact (by first | exact absurd c18 (by decide) | exact absurd (by decide) c18)
              · skip
                exact absurd ⟨hN60, nlt_i (a := oa) (b := 28) (by omega) (by omega) c16⟩ hc9
      · skip
        have hlt : k6 < 6 := nlt_i (a := k6) (b := 6) (by omega) (by omega) c1
        refine lv_aload_n hx hb dL_law_227 rfl (lv_at hl 10 rfl) ?_
        refine lv_iload hx hb dL_law_228 (lv_at hl 0 rfl) ?_
        refine wld C I (j := k6) (by omega) rfl dL_law_230 ?_
        refine lv_if_ge (tgt := 239) hx hb dL_law_231 (by decide) (fun c22 => ?_) (fun c22 => ?_)
        · skip
          refine lv_iload hx hb dL_law_239 (lv_at hl 1 rfl) ?_
          refine lv_istore (lv' := [(13, .int fr), (14, .int (nI k6)), (12, .int (nI ky)), (11, .int (nI aa)), (9, .int (nI yy)), (7, .int (nI n)), (6, .int (nI tt)), (5, .int (nI N)), (4, .int 1), (3, .ref o2), (2, .ref o1), (1, .ref (g 0)), (0, .ref b)]) hx hb dL_law_241 hl (by decide) rfl (fun ls hl => ?_)
          refine lv_iinc (v := nI (k6 + 1)) (lv' := [(14, .int (nI (k6 + 1))), (13, .int fr), (12, .int (nI ky)), (11, .int (nI aa)), (9, .int (nI yy)), (7, .int (nI n)), (6, .int (nI tt)), (5, .int (nI N)), (4, .int 1), (3, .ref o2), (2, .ref o1), (1, .ref (g 0)), (0, .ref b)]) hx hb dL_law_243 hl (k := 1) rfl (nI_1 k6) (by decide) rfl (fun ls hl => ?_)
          refine lv_goto (tgt := 220) hx hb dL_law_246 (by decide) ?_
          exact ih220 (k6 + 1) fr hlt (by first | exact hfr | exact Or.inr ⟨k6, hlt, rfl, i_nle c22⟩) (ms_s hlt hn220) _ _ I hS ls (lv_sub hl [0, 1, 2, 3, 4, 5, 6, 7, 8, 9, 10, 11, 12] rfl)
        · skip
          refine lv_iload hx hb dL_law_234 (lv_at hl 0 rfl) ?_
          refine lv_goto (tgt := 241) hx hb dL_law_236 (by decide) ?_
          refine lv_istore (lv' := [(13, .int (nI k6)), (14, .int (nI k6)), (12, .int (nI ky)), (11, .int (nI aa)), (9, .int (nI yy)), (7, .int (nI n)), (6, .int (nI tt)), (5, .int (nI N)), (4, .int 1), (3, .ref o2), (2, .ref o1), (1, .ref (g 0)), (0, .ref b)]) hx hb dL_law_241 hl (by decide) rfl (fun ls hl => ?_)
          refine lv_iinc (v := nI (k6 + 1)) (lv' := [(14, .int (nI (k6 + 1))), (13, .int (nI k6)), (12, .int (nI ky)), (11, .int (nI aa)), (9, .int (nI yy)), (7, .int (nI n)), (6, .int (nI tt)), (5, .int (nI N)), (4, .int 1), (3, .ref o2), (2, .ref o1), (1, .ref (g 0)), (0, .ref b)]) hx hb dL_law_243 hl (k := 1) rfl (nI_1 k6) (by decide) rfl (fun ls hl => ?_)
          refine lv_goto (tgt := 220) hx hb dL_law_246 (by decide) ?_
          exact ih220 (k6 + 1) (nI k6) hlt (by first | exact hfr | exact Or.inr ⟨k6, hlt, rfl, i_nle c22⟩) (ms_s hlt hn220) _ _ I hS ls (lv_sub hl [0, 1, 2, 3, 4, 5, 6, 7, 8, 9, 10, 11, 12] rfl)
  exact loop220 _ 0 (-1) (by omega) (Or.inl rfl) (Nat.lt_succ_self _) _ _ I hS ls (lv_sub hl [0, 1, 2, 3, 4, 5, 6, 7, 8, 9, 10, 11, 12] rfl)

set_option maxHeartbeats 4000000 in
set_option maxRecDepth 100000 in
theorem sg_end {p : Program} {l : Launch} {e : Env} {s : State} {m : MethodId} {below : List Frame} {meth : Method} {c : Code} {Q : State → Prop} {b L : Nat} {xs : Nat → Int32} {D : va_G} {K : Nat → ClassId} {g : Nat → Nat} {o1 o2 : Nat} {u : CU} {fw hw : AI} {n N tt : Nat} {H : Heap} {locs : List Loc} {ls : Array Slot} {cells slots : Nat} {yy aa ky : Nat} (C : LC p l s m meth c b L xs D K) (J : LD s g o1 o2) (I : LI D K g o1 o2 u fw hw H) (hS : va_S (A0 s) s.heap H locs) (hcr : cells + 12 ≤ room_1.cells) (hsr : slots + 60 ≤ room_1.slots) (hl : lv_has ls 17 [(12, .int (nI ky)), (11, .int (nI aa)), (9, .int (nI yy)), (7, .int (nI n)), (6, .int (nI tt)), (5, .int (nI N)), (4, .int 1), (3, .ref o2), (2, .ref o1), (1, .ref (g 0)), (0, .ref b)]) (hL : LZ n u N fw hw) (hn : n < 340) (haa : aa < 6) (hyy : yy < 268435456) (hky : ky < 6) (hf9 : ¬ fw aa < 0) (kk : ∀ (u2 : CU) (N2 : Nat) (f2 h2 : AI) (H1 : Heap) (locs1 : List Loc) (ls1 : Array Slot), LZ (n + 1) u2 N2 f2 h2 → LI D K g o1 o2 u2 f2 h2 H1 → va_S (A0 s) s.heap H1 locs1 → lv_has ls1 17 [(11, .int (nI aa)), (9, .int (nI yy)), (7, .int (nI n)), (6, .int (nI tt)), (5, .int (nI N2)), (4, .int 1), (3, .ref o2), (2, .ref o1), (1, .ref (g 0)), (0, .ref b)] → W p l e room_1 s m #[.ref b] below meth c H1 locs1 (cells + 12) (slots + 60) Q (F0 m 983 ls1 [])) : W p l e room_1 s m #[.ref b] below meth c H locs cells slots Q (F0 m 384 ls []) := by
  obtain ⟨hx, hb, hml, hown, hts⟩ := C.1
  have hfl := C.2.2.2
  refine lv_iconst (v := (-1)) hx hb dL_law_384 (by decide) ?_
  refine tpi (y := nI 0 - 1) rfl ?_
  refine lv_istore (lv' := [(13, .int (nI 0 - 1)), (12, .int (nI ky)), (11, .int (nI aa)), (9, .int (nI yy)), (7, .int (nI n)), (6, .int (nI tt)), (5, .int (nI N)), (4, .int 1), (3, .ref o2), (2, .ref o1), (1, .ref (g 0)), (0, .ref b)]) hx hb dL_law_385 hl (by decide) rfl (fun ls hl => ?_)
  refine lv_iconst (v := 0) hx hb dL_law_387 (by decide) ?_
  refine lv_istore (lv' := [(14, .int 0), (13, .int (nI 0 - 1)), (12, .int (nI ky)), (11, .int (nI aa)), (9, .int (nI yy)), (7, .int (nI n)), (6, .int (nI tt)), (5, .int (nI N)), (4, .int 1), (3, .ref o2), (2, .ref o1), (1, .ref (g 0)), (0, .ref b)]) hx hb dL_law_388 hl (by decide) rfl (fun ls hl => ?_)
  have loop390 : ∀ (n390 : Nat) (k6 : Nat) (cc : Nat), (k6 ≤ 6) → (cc = ctq (fun j => ¬ fw j < 0) k6) → 6 - k6 < n390 → ∀ (H : Heap) (locs : List Loc), LI D K g o1 o2 u fw hw H → va_S (A0 s) s.heap H locs → ∀ (ls : Array Slot), lv_has ls 17 [(14, .int (nI k6)), (13, .int (nI cc - 1)), (12, .int (nI ky)), (11, .int (nI aa)), (9, .int (nI yy)), (7, .int (nI n)), (6, .int (nI tt)), (5, .int (nI N)), (4, .int 1), (3, .ref o2), (2, .ref o1), (1, .ref (g 0)), (0, .ref b)] → W p l e room_1 s m #[.ref b] below meth c H locs cells slots Q (F0 m 390 ls []) := by
    intro n390
    induction n390 with
    | zero =>
      intro k6 cc hk6 hcc hn390
      exact absurd hn390 (Nat.not_lt_zero _)
    | succ n390 ih390 =>
      intro k6 cc hk6 hcc hn390 H locs I hS ls hl
      refine lv_iload hx hb dL_law_390 (lv_at hl 0 rfl) ?_
      refine lv_bipush (v := 6) hx hb dL_law_392 (by decide) ?_
      refine lv_icmp_ge (tgt := 420) hx hb dL_law_394 (by decide) (fun c1 => ?_) (fun c1 => ?_)
      · skip
        have e6 : k6 = 6 := by have := nge_i (a := k6) (b := 6) (by omega) (by omega) c1; omega
        subst e6
        refine lv_iload hx hb dL_law_420 (lv_at hl 4 rfl) ?_
        refine lv_bipush (v := 12) hx hb dL_law_422 (by decide) ?_
        refine lv_ishr hx hb dL_law_424 ?_
        refine lv_iconst (v := 3) hx hb dL_law_425 (by decide) ?_
        refine lv_iand hx hb dL_law_426 ?_
        refine lv_if_le (tgt := 434) hx hb dL_law_427 (by decide) (fun c2 => ?_) (fun c2 => ?_)
        · skip
          refine lv_iconst (v := 0) hx hb dL_law_434 (by decide) ?_
          refine tpi (y := fb False) (f_fb (fun z => z)) ?_
          refine lv_istore (lv' := [(14, .int (fb False)), (13, .int (nI cc - 1)), (12, .int (nI ky)), (11, .int (nI aa)), (9, .int (nI yy)), (7, .int (nI n)), (6, .int (nI tt)), (5, .int (nI N)), (4, .int 1), (3, .ref o2), (2, .ref o1), (1, .ref (g 0)), (0, .ref b)]) hx hb dL_law_435 hl (by decide) rfl (fun ls hl => ?_)
          obtain ⟨u9, c9, hc9, hL9, hM9⟩ := lz_end hL (by omega) haa hf9 False
          have ecc : cc = c9 + 1 := hcc.trans hc9
          subst ecc
          rw [nI_pred] at hl
          refine lv_aload_n hx hb dL_law_437 rfl (lv_at hl 11 rfl) ?_
          refine lv_aload_n hx hb dL_law_438 rfl (lv_at hl 10 rfl) ?_
          refine lv_iload hx hb dL_law_439 (lv_at hl 3 rfl) ?_
          refine wld C I (j := aa) (by omega) rfl dL_law_441 ?_
          refine lv_iload hx hb dL_law_442 (lv_at hl 0 rfl) ?_
          refine lcI (As := [.int (fw aa), .int (fb False)]) (rest := []) C J I hS (hM9 (gd_Lg J.1.1)) (cwV 2 hts gL_law_X4_end rfl rfl rfl hdX4_end ⟨Nat.le_of_ble_eq_true rfl, Nat.le_of_ble_eq_true rfl⟩) rfl rfl rfl hl.1 rfl (Nat.le_of_ble_eq_true rfl) dL_law_444 ⟨Nat.le_trans (Nat.le_add_right _ _) hcr, Nat.le_trans (Nat.le_add_right _ _) hsr⟩ (fun H locs I hS => ?_)
          refine lv_iload hx hb dL_law_447 (lv_at hl 1 rfl) ?_
          refine lv_icmp_ne (tgt := 456) hx hb dL_law_449 (by decide) (fun c3 => ?_) (fun c3 => ?_)
          · skip
            exact absurd rfl c3
          · skip
            refine lv_iconst (v := 1) hx hb dL_law_452 (by decide) ?_
            refine lv_goto (tgt := 457) hx hb dL_law_453 (by decide) ?_
            refine lv_istore (lv' := [(4, .int 1), (14, .int (fb False)), (13, .int (nI c9)), (12, .int (nI ky)), (11, .int (nI aa)), (9, .int (nI yy)), (7, .int (nI n)), (6, .int (nI tt)), (5, .int (nI N)), (3, .ref o2), (2, .ref o1), (1, .ref (g 0)), (0, .ref b)]) hx hb dL_law_457 hl (by decide) rfl (fun ls hl => ?_)
            refine lv_aload_n hx hb dL_law_459 rfl (lv_at hl 10 rfl) ?_
            refine lv_iload hx hb dL_law_460 (lv_at hl 4 rfl) ?_
            refine lv_iconst (v := (-1)) hx hb dL_law_462 (by decide) ?_
            refine wst C J I hS (j := aa) (by omega) rfl dL_law_463 (fun H locs I hS => ?_)
            refine lv_goto (tgt := 983) hx hb dL_law_464 (by decide) ?_
            refine W.widen (k := cells + 12) (n := slots + 60) (Nat.le_add_right _ _) (Nat.le_add_right _ _) ?_
            exact kk _ _ _ _ H locs ls hL9 I hS (lv_sub hl [4, 5, 6, 7, 8, 0, 9, 10, 11, 12] rfl)
        · skip
          refine lv_iconst (v := 1) hx hb dL_law_430 (by decide) ?_
          refine lv_goto (tgt := 435) hx hb dL_law_431 (by decide) ?_
          refine tpi (y := fb True) (t_fb trivial) ?_
          refine lv_istore (lv' := [(14, .int (fb True)), (13, .int (nI cc - 1)), (12, .int (nI ky)), (11, .int (nI aa)), (9, .int (nI yy)), (7, .int (nI n)), (6, .int (nI tt)), (5, .int (nI N)), (4, .int 1), (3, .ref o2), (2, .ref o1), (1, .ref (g 0)), (0, .ref b)]) hx hb dL_law_435 hl (by decide) rfl (fun ls hl => ?_)
          obtain ⟨u9, c9, hc9, hL9, hM9⟩ := lz_end hL (by omega) haa hf9 True
          have ecc : cc = c9 + 1 := hcc.trans hc9
          subst ecc
          rw [nI_pred] at hl
          refine lv_aload_n hx hb dL_law_437 rfl (lv_at hl 11 rfl) ?_
          refine lv_aload_n hx hb dL_law_438 rfl (lv_at hl 10 rfl) ?_
          refine lv_iload hx hb dL_law_439 (lv_at hl 3 rfl) ?_
          refine wld C I (j := aa) (by omega) rfl dL_law_441 ?_
          refine lv_iload hx hb dL_law_442 (lv_at hl 0 rfl) ?_
          refine lcI (As := [.int (fw aa), .int (fb True)]) (rest := []) C J I hS (hM9 (gd_Lg J.1.1)) (cwV 2 hts gL_law_X4_end rfl rfl rfl hdX4_end ⟨Nat.le_of_ble_eq_true rfl, Nat.le_of_ble_eq_true rfl⟩) rfl rfl rfl hl.1 rfl (Nat.le_of_ble_eq_true rfl) dL_law_444 ⟨Nat.le_trans (Nat.le_add_right _ _) hcr, Nat.le_trans (Nat.le_add_right _ _) hsr⟩ (fun H locs I hS => ?_)
          refine lv_iload hx hb dL_law_447 (lv_at hl 1 rfl) ?_
          refine lv_icmp_ne (tgt := 456) hx hb dL_law_449 (by decide) (fun c4 => ?_) (fun c4 => ?_)
          · skip
            exact absurd rfl c4
          · skip
            refine lv_iconst (v := 1) hx hb dL_law_452 (by decide) ?_
            refine lv_goto (tgt := 457) hx hb dL_law_453 (by decide) ?_
            refine lv_istore (lv' := [(4, .int 1), (14, .int (fb True)), (13, .int (nI c9)), (12, .int (nI ky)), (11, .int (nI aa)), (9, .int (nI yy)), (7, .int (nI n)), (6, .int (nI tt)), (5, .int (nI N)), (3, .ref o2), (2, .ref o1), (1, .ref (g 0)), (0, .ref b)]) hx hb dL_law_457 hl (by decide) rfl (fun ls hl => ?_)
            refine lv_aload_n hx hb dL_law_459 rfl (lv_at hl 10 rfl) ?_
            refine lv_iload hx hb dL_law_460 (lv_at hl 4 rfl) ?_
            refine lv_iconst (v := (-1)) hx hb dL_law_462 (by decide) ?_
            refine wst C J I hS (j := aa) (by omega) rfl dL_law_463 (fun H locs I hS => ?_)
            refine lv_goto (tgt := 983) hx hb dL_law_464 (by decide) ?_
            refine W.widen (k := cells + 12) (n := slots + 60) (Nat.le_add_right _ _) (Nat.le_add_right _ _) ?_
            exact kk _ _ _ _ H locs ls hL9 I hS (lv_sub hl [4, 5, 6, 7, 8, 0, 9, 10, 11, 12] rfl)
      · skip
        have hlt : k6 < 6 := nlt_i (a := k6) (b := 6) (by omega) (by omega) c1
        refine lv_iload hx hb dL_law_397 (lv_at hl 1 rfl) ?_
        refine lv_aload_n hx hb dL_law_399 rfl (lv_at hl 10 rfl) ?_
        refine lv_iload hx hb dL_law_400 (lv_at hl 0 rfl) ?_
        refine wld C I (j := k6) (by omega) rfl dL_law_402 ?_
        refine lv_if_lt (tgt := 410) hx hb dL_law_403 (by decide) (fun c5 => ?_) (fun c5 => ?_)
        · skip
          refine lv_iconst (v := 0) hx hb dL_law_410 (by decide) ?_
          refine lv_iadd hx hb dL_law_411 ?_
          refine tpi (y := nI cc - 1) (Int32.add_zero _) ?_
          refine lv_istore (lv' := [(13, .int (nI cc - 1)), (14, .int (nI k6)), (12, .int (nI ky)), (11, .int (nI aa)), (9, .int (nI yy)), (7, .int (nI n)), (6, .int (nI tt)), (5, .int (nI N)), (4, .int 1), (3, .ref o2), (2, .ref o1), (1, .ref (g 0)), (0, .ref b)]) hx hb dL_law_412 hl (by decide) rfl (fun ls hl => ?_)
          refine lv_iinc (v := nI (k6 + 1)) (lv' := [(14, .int (nI (k6 + 1))), (13, .int (nI cc - 1)), (12, .int (nI ky)), (11, .int (nI aa)), (9, .int (nI yy)), (7, .int (nI n)), (6, .int (nI tt)), (5, .int (nI N)), (4, .int 1), (3, .ref o2), (2, .ref o1), (1, .ref (g 0)), (0, .ref b)]) hx hb dL_law_414 hl (k := 1) rfl (nI_1 k6) (by decide) rfl (fun ls hl => ?_)
          refine lv_goto (tgt := 390) hx hb dL_law_417 (by decide) ?_
          exact ih390 (k6 + 1) cc hlt (by first | rw [ctq_n (p := fun j => ¬ fw j < 0) (fun z => z c5), hcc] | rw [ctq_y (p := fun j => ¬ fw j < 0) c5, hcc]) (ms_s hlt hn390) _ _ I hS ls (lv_sub hl [0, 1, 2, 3, 4, 5, 6, 7, 8, 9, 10, 11, 12] rfl)
        · skip
          refine lv_iconst (v := 1) hx hb dL_law_406 (by decide) ?_
          refine lv_goto (tgt := 411) hx hb dL_law_407 (by decide) ?_
          refine lv_iadd hx hb dL_law_411 ?_
          refine tpi (y := nI (cc + 1) - 1) (m1_s cc) ?_
          refine lv_istore (lv' := [(13, .int (nI (cc + 1) - 1)), (14, .int (nI k6)), (12, .int (nI ky)), (11, .int (nI aa)), (9, .int (nI yy)), (7, .int (nI n)), (6, .int (nI tt)), (5, .int (nI N)), (4, .int 1), (3, .ref o2), (2, .ref o1), (1, .ref (g 0)), (0, .ref b)]) hx hb dL_law_412 hl (by decide) rfl (fun ls hl => ?_)
          refine lv_iinc (v := nI (k6 + 1)) (lv' := [(14, .int (nI (k6 + 1))), (13, .int (nI (cc + 1) - 1)), (12, .int (nI ky)), (11, .int (nI aa)), (9, .int (nI yy)), (7, .int (nI n)), (6, .int (nI tt)), (5, .int (nI N)), (4, .int 1), (3, .ref o2), (2, .ref o1), (1, .ref (g 0)), (0, .ref b)]) hx hb dL_law_414 hl (k := 1) rfl (nI_1 k6) (by decide) rfl (fun ls hl => ?_)
          refine lv_goto (tgt := 390) hx hb dL_law_417 (by decide) ?_
          exact ih390 (k6 + 1) (cc + 1) hlt (by first | rw [ctq_n (p := fun j => ¬ fw j < 0) (fun z => z c5), hcc] | rw [ctq_y (p := fun j => ¬ fw j < 0) c5, hcc]) (ms_s hlt hn390) _ _ I hS ls (lv_sub hl [0, 1, 2, 3, 4, 5, 6, 7, 8, 9, 10, 11, 12] rfl)
  exact loop390 _ 0 0 (by omega) rfl (Nat.lt_succ_self _) _ _ I hS ls (lv_sub hl [0, 1, 2, 3, 4, 5, 6, 7, 8, 9, 10, 11, 12] rfl)

set_option maxHeartbeats 4000000 in
set_option maxRecDepth 100000 in
theorem sg_write {p : Program} {l : Launch} {e : Env} {s : State} {m : MethodId} {below : List Frame} {meth : Method} {c : Code} {Q : State → Prop} {b L : Nat} {xs : Nat → Int32} {D : va_G} {K : Nat → ClassId} {g : Nat → Nat} {o1 o2 : Nat} {u : CU} {fw hw : AI} {n N tt : Nat} {H : Heap} {locs : List Loc} {ls : Array Slot} {cells slots : Nat} {yy aa ky : Nat} (C : LC p l s m meth c b L xs D K) (J : LD s g o1 o2) (I : LI D K g o1 o2 u fw hw H) (hS : va_S (A0 s) s.heap H locs) (hcr : cells + 12 ≤ room_1.cells) (hsr : slots + 60 ≤ room_1.slots) (hl : lv_has ls 17 [(12, .int (nI ky)), (11, .int (nI aa)), (9, .int (nI yy)), (7, .int (nI n)), (6, .int (nI tt)), (5, .int (nI N)), (4, .int 1), (3, .ref o2), (2, .ref o1), (1, .ref (g 0)), (0, .ref b)]) (hL : LZ n u N fw hw) (hn : n < 340) (haa : aa < 6) (hyy : yy < 268435456) (hky : ky < 6) (hf9 : ¬ fw aa < 0) (kk : ∀ (u2 : CU) (N2 : Nat) (f2 h2 : AI) (H1 : Heap) (locs1 : List Loc) (ls1 : Array Slot), LZ (n + 1) u2 N2 f2 h2 → LI D K g o1 o2 u2 f2 h2 H1 → va_S (A0 s) s.heap H1 locs1 → lv_has ls1 17 [(11, .int (nI aa)), (9, .int (nI yy)), (7, .int (nI n)), (6, .int (nI tt)), (5, .int (nI N2)), (4, .int 1), (3, .ref o2), (2, .ref o1), (1, .ref (g 0)), (0, .ref b)] → W p l e room_1 s m #[.ref b] below meth c H1 locs1 (cells + 12) (slots + 60) Q (F0 m 983 ls1 [])) : W p l e room_1 s m #[.ref b] below meth c H locs cells slots Q (F0 m 481 ls []) := by
  obtain ⟨hx, hb, hml, hown, hts⟩ := C.1
  have hfl := C.2.2.2
  refine lv_iload hx hb dL_law_481 (lv_at hl 2 rfl) ?_
  refine lv_bipush (v := 9) hx hb dL_law_483 (by decide) ?_
  refine lv_ishr hx hb dL_law_485 ?_
  refine tpi (y := nI (yy / 512)) (shr9 (by omega)) ?_
  refine lv_sipush (v := 10000) hx hb dL_law_486 (by decide) ?_
  refine lv_irem hx hb dL_law_489 (by decide) ?_
  refine tpi (y := nI (yy / 512 % 10000)) (pk_rem (d := 10000) (by omega) (by omega) (by omega)) ?_
  refine lv_istore (lv' := [(13, .int (nI (yy / 512 % 10000))), (12, .int (nI ky)), (11, .int (nI aa)), (9, .int (nI yy)), (7, .int (nI n)), (6, .int (nI tt)), (5, .int (nI N)), (4, .int 1), (3, .ref o2), (2, .ref o1), (1, .ref (g 0)), (0, .ref b)]) hx hb dL_law_490 hl (by decide) rfl (fun ls hl => ?_)
  rcases lz_writes (D := D) (K := K) hL (by omega) haa hf9 hky (z := yy / 512 % 10000) (Nat.mod_lt _ (by decide)) (gd_Lg J.1.1) hfl with ⟨u9, s9, y9, hs9, rfl | ⟨rfl, m9, hm9, em9⟩, hsl9, hL9, hM9⟩ | hM9
  · skip
    refine lv_aload_n hx hb dL_law_492 rfl (lv_at hl 10 rfl) ?_
    refine lv_aload_n hx hb dL_law_493 rfl (lv_at hl 9 rfl) ?_
    refine lv_iload hx hb dL_law_494 (lv_at hl 2 rfl) ?_
    refine wld C I (j := aa) (by omega) rfl dL_law_496 ?_
    refine lv_iload hx hb dL_law_497 (lv_at hl 1 rfl) ?_
    refine lv_iload hx hb dL_law_499 (lv_at hl 0 rfl) ?_
    refine lwI (As := [.ref (g 0), .int (fw aa), .int (nI ky), .int (nI (yy / 512 % 10000))]) (rest := []) C J I hS hM9 (vx_cwSW 4 hts gL_law_L_writes rfl rfl rfl hdL_writes.2 ⟨Nat.le_of_ble_eq_true rfl, Nat.le_of_ble_eq_true rfl⟩) rfl hl.1 rfl (Nat.le_of_ble_eq_true rfl) dL_law_501 ⟨Nat.le_trans (Nat.add_le_add_left (Nat.le_of_ble_eq_true rfl) cells) hcr, Nat.le_trans (Nat.add_le_add_left (Nat.le_of_ble_eq_true rfl) slots) hsr⟩ (fun H locs I hS => ?_)
    have hcr2 : cells + rmL_writes.cells ≤ room_1.cells := Nat.le_trans (Nat.add_le_add_left (Nat.le_of_ble_eq_true rfl) cells) hcr
    have hsr2 : slots + rmL_writes.slots ≤ room_1.slots := Nat.le_trans (Nat.add_le_add_left (Nat.le_of_ble_eq_true rfl) slots) hsr
    refine lv_istore (lv' := [(14, .int (nI (1000 * (s9 / 8) + s9 % 8 + 100000 * 0))), (13, .int (nI (yy / 512 % 10000))), (12, .int (nI ky)), (11, .int (nI aa)), (9, .int (nI yy)), (7, .int (nI n)), (6, .int (nI tt)), (5, .int (nI N)), (4, .int 1), (3, .ref o2), (2, .ref o1), (1, .ref (g 0)), (0, .ref b)]) hx hb dL_law_504 hl (by decide) rfl (fun ls hl => ?_)
    refine lv_iload hx hb dL_law_506 (lv_at hl 0 rfl) ?_
    refine lv_bipush (v := (-3)) hx hb dL_law_508 (by decide) ?_
    refine lv_icmp_eq (tgt := 586) hx hb dL_law_510 (by decide) (fun c1 => ?_) (fun c1 => ?_)
    · skip
      exact absurd c1 (m3 (by omega))
    · skip
      refine lv_iload hx hb dL_law_513 (lv_at hl 0 rfl) ?_
      refine lv_if_lt (tgt := 590) hx hb dL_law_515 (by decide) (fun c2 => ?_) (fun c2 => ?_)
      · skip
        exact absurd c2 (nI_pos (by omega))
      · skip
        refine lv_iload hx hb dL_law_518 (lv_at hl 0 rfl) ?_
        refine lv_ldc (v := 100000) hx hb hown (hts _ lk77) dL_law_520 ?_
        refine lv_irem hx hb dL_law_522 (by decide) ?_
        refine tpi (y := nI (1000 * (s9 / 8) + s9 % 8)) ((pk_rem (d := 100000) (by omega) (by omega) (by omega)).trans (congrArg nI (by omega))) ?_
        refine lv_sipush (v := 1000) hx hb dL_law_523 (by decide) ?_
        refine lv_idiv hx hb dL_law_526 (by decide) ?_
        refine tpi (y := nI (s9 / 8)) ((pk_div (d := 1000) (by omega) (by omega) (by omega)).trans (congrArg nI (by omega))) ?_
        refine lv_iconst (v := 4) hx hb dL_law_527 (by decide) ?_
        refine lv_icmp_ge (tgt := 590) hx hb dL_law_528 (by decide) (fun c3 => ?_) (fun c3 => ?_)
        · skip
          exact absurd (nge_i (a := s9 / 8) (b := 4) (by omega) (by omega) c3) (by omega)
        · skip
          refine lv_iload hx hb dL_law_531 (lv_at hl 0 rfl) ?_
          refine lv_sipush (v := 1000) hx hb dL_law_533 (by decide) ?_
          refine lv_irem hx hb dL_law_536 (by decide) ?_
          refine tpi (y := nI (s9 % 8)) ((pk_rem (d := 1000) (by omega) (by omega) (by omega)).trans (congrArg nI (by omega))) ?_
          refine lv_bipush (v := 8) hx hb dL_law_537 (by decide) ?_
          refine lv_icmp_ge (tgt := 590) hx hb dL_law_539 (by decide) (fun c4 => ?_) (fun c4 => ?_)
          · skip
            exact absurd (nge_i (a := s9 % 8) (b := 8) (by omega) (by omega) c4) (by omega)
          · skip
            refine lv_aload_n hx hb dL_law_542 rfl (lv_at hl 11 rfl) ?_
            refine lv_iload hx hb dL_law_543 (lv_at hl 0 rfl) ?_
            refine lv_ldc (v := 100000) hx hb hown (hts _ lk77) dL_law_545 ?_
            refine lv_irem hx hb dL_law_547 (by decide) ?_
            refine tpi (y := nI (1000 * (s9 / 8) + s9 % 8)) ((pk_rem (d := 100000) (by omega) (by omega) (by omega)).trans (congrArg nI (by omega))) ?_
            refine lv_sipush (v := 1000) hx hb dL_law_548 (by decide) ?_
            refine lv_idiv hx hb dL_law_551 (by decide) ?_
            refine tpi (y := nI (s9 / 8)) ((pk_div (d := 1000) (by omega) (by omega) (by omega)).trans (congrArg nI (by omega))) ?_
            refine lv_iload hx hb dL_law_552 (lv_at hl 0 rfl) ?_
            refine lv_sipush (v := 1000) hx hb dL_law_554 (by decide) ?_
            refine lv_irem hx hb dL_law_557 (by decide) ?_
            refine tpi (y := nI (s9 % 8)) ((pk_rem (d := 1000) (by omega) (by omega) (by omega)).trans (congrArg nI (by omega))) ?_
            refine lcI (As := [.int (nI (s9 / 8)), .int (nI (s9 % 8))]) (rest := []) C J I hS (kX4_slot0 (gd_Lg J.1.1) u9 (s9 / 8) (by omega) (pgI (by omega)) (s9 % 8) (by omega) (slI (by omega))) (cwV 2 hts gL_law_X4_slot rfl rfl rfl hdX4_slot ⟨Nat.le_of_ble_eq_true rfl, Nat.le_of_ble_eq_true rfl⟩) rfl rfl rfl hl.1 rfl (Nat.le_of_ble_eq_true rfl) dL_law_558 ⟨hcr2, hsr2⟩ (fun H locs I hS => ?_)
            refine tpi (y := nI ky) (by rw [show s9 / 8 * 8 + s9 % 8 = s9 by omega]; exact hsl9) ?_
            refine lv_iload hx hb dL_law_561 (lv_at hl 2 rfl) ?_
            refine lv_icmp_ne (tgt := 590) hx hb dL_law_563 (by decide) (fun c5 => ?_) (fun c5 => ?_)
            · skip
              exact absurd rfl c5
            · skip
              refine lv_iload hx hb dL_law_566 (lv_at hl 0 rfl) ?_
              refine lv_ldc (v := 100000) hx hb hown (hts _ lk77) dL_law_568 ?_
              refine lv_icmp_lt (tgt := 586) hx hb dL_law_570 (by decide) (fun c6 => ?_) (fun c6 => ?_)
              · skip
                refine lv_iconst (v := 1) hx hb dL_law_586 (by decide) ?_
                refine lv_goto (tgt := 591) hx hb dL_law_587 (by decide) ?_
                refine lv_istore (lv' := [(4, .int 1), (14, .int (nI (1000 * (s9 / 8) + s9 % 8 + 100000 * 0))), (13, .int (nI (yy / 512 % 10000))), (12, .int (nI ky)), (11, .int (nI aa)), (9, .int (nI yy)), (7, .int (nI n)), (6, .int (nI tt)), (5, .int (nI N)), (3, .ref o2), (2, .ref o1), (1, .ref (g 0)), (0, .ref b)]) hx hb dL_law_591 hl (by decide) rfl (fun ls hl => ?_)
                refine lv_aload_n hx hb dL_law_593 rfl (lv_at hl 9 rfl) ?_
                refine lv_bipush (v := 6) hx hb dL_law_594 (by decide) ?_
                refine lv_iload hx hb dL_law_596 (lv_at hl 4 rfl) ?_
                refine lv_imul hx hb dL_law_598 ?_
                refine tpi (y := nI (6 * aa)) (pk_mul 6 aa) ?_
                refine lv_iload hx hb dL_law_599 (lv_at hl 3 rfl) ?_
                refine lv_iadd hx hb dL_law_601 ?_
                refine tpi (y := nI (6 * aa + ky)) (nI_add (6 * aa) ky) ?_
                refine lv_iload hx hb dL_law_602 (lv_at hl 1 rfl) ?_
                refine lv_bipush (v := (-3)) hx hb dL_law_604 (by decide) ?_
                refine lv_icmp_ne (tgt := 622) hx hb dL_law_606 (by decide) (fun c7 => ?_) (fun c7 => ?_)
                · skip
                  refine lv_iload hx hb dL_law_622 (lv_at hl 2 rfl) ?_
                  refine hst C J I hS (j := (6 * aa + ky)) (by omega) rfl dL_law_624 (fun H locs I hS => ?_)
                  refine lv_goto (tgt := 983) hx hb dL_law_625 (by decide) ?_
                  refine W.widen (k := cells + 12) (n := slots + 60) (Nat.add_le_add_left (Nat.le_of_ble_eq_true rfl) cells) (Nat.add_le_add_left (Nat.le_of_ble_eq_true rfl) slots) ?_
                  exact kk _ _ _ _ H locs ls hL9 I hS (lv_sub hl [4, 5, 6, 7, 8, 0, 9, 10, 11, 12] rfl)
                · skip
                  exact absurd c7 c1
              · skip
                exact absurd ((nI_ltI (a := 1000 * (s9 / 8) + s9 % 8 + 100000 * 0) (b := 100000) (by omega) (by omega)).mpr (by omega)) c6
  · skip
    refine lv_aload_n hx hb dL_law_492 rfl (lv_at hl 10 rfl) ?_
    refine lv_aload_n hx hb dL_law_493 rfl (lv_at hl 9 rfl) ?_
    refine lv_iload hx hb dL_law_494 (lv_at hl 2 rfl) ?_
    refine wld C I (j := aa) (by omega) rfl dL_law_496 ?_
    refine lv_iload hx hb dL_law_497 (lv_at hl 1 rfl) ?_
    refine lv_iload hx hb dL_law_499 (lv_at hl 0 rfl) ?_
    refine lwI (As := [.ref (g 0), .int (fw aa), .int (nI ky), .int (nI (yy / 512 % 10000))]) (rest := []) C J I hS hM9 (vx_cwSW 4 hts gL_law_L_writes rfl rfl rfl hdL_writes.2 ⟨Nat.le_of_ble_eq_true rfl, Nat.le_of_ble_eq_true rfl⟩) rfl hl.1 rfl (Nat.le_of_ble_eq_true rfl) dL_law_501 ⟨Nat.le_trans (Nat.add_le_add_left (Nat.le_of_ble_eq_true rfl) cells) hcr, Nat.le_trans (Nat.add_le_add_left (Nat.le_of_ble_eq_true rfl) slots) hsr⟩ (fun H locs I hS => ?_)
    have hcr2 : cells + rmL_writes.cells ≤ room_1.cells := Nat.le_trans (Nat.add_le_add_left (Nat.le_of_ble_eq_true rfl) cells) hcr
    have hsr2 : slots + rmL_writes.slots ≤ room_1.slots := Nat.le_trans (Nat.add_le_add_left (Nat.le_of_ble_eq_true rfl) slots) hsr
    refine lv_istore (lv' := [(14, .int (nI (1000 * (s9 / 8) + s9 % 8 + 100000 * 1))), (13, .int (nI (yy / 512 % 10000))), (12, .int (nI ky)), (11, .int (nI aa)), (9, .int (nI yy)), (7, .int (nI n)), (6, .int (nI tt)), (5, .int (nI N)), (4, .int 1), (3, .ref o2), (2, .ref o1), (1, .ref (g 0)), (0, .ref b)]) hx hb dL_law_504 hl (by decide) rfl (fun ls hl => ?_)
    refine lv_iload hx hb dL_law_506 (lv_at hl 0 rfl) ?_
    refine lv_bipush (v := (-3)) hx hb dL_law_508 (by decide) ?_
    refine lv_icmp_eq (tgt := 586) hx hb dL_law_510 (by decide) (fun c8 => ?_) (fun c8 => ?_)
    · skip
      exact absurd c8 (m3 (by omega))
    · skip
      refine lv_iload hx hb dL_law_513 (lv_at hl 0 rfl) ?_
      refine lv_if_lt (tgt := 590) hx hb dL_law_515 (by decide) (fun c9 => ?_) (fun c9 => ?_)
      · skip
        exact absurd c9 (nI_pos (by omega))
      · skip
        refine lv_iload hx hb dL_law_518 (lv_at hl 0 rfl) ?_
        refine lv_ldc (v := 100000) hx hb hown (hts _ lk77) dL_law_520 ?_
        refine lv_irem hx hb dL_law_522 (by decide) ?_
        refine tpi (y := nI (1000 * (s9 / 8) + s9 % 8)) ((pk_rem (d := 100000) (by omega) (by omega) (by omega)).trans (congrArg nI (by omega))) ?_
        refine lv_sipush (v := 1000) hx hb dL_law_523 (by decide) ?_
        refine lv_idiv hx hb dL_law_526 (by decide) ?_
        refine tpi (y := nI (s9 / 8)) ((pk_div (d := 1000) (by omega) (by omega) (by omega)).trans (congrArg nI (by omega))) ?_
        refine lv_iconst (v := 4) hx hb dL_law_527 (by decide) ?_
        refine lv_icmp_ge (tgt := 590) hx hb dL_law_528 (by decide) (fun c10 => ?_) (fun c10 => ?_)
        · skip
          exact absurd (nge_i (a := s9 / 8) (b := 4) (by omega) (by omega) c10) (by omega)
        · skip
          refine lv_iload hx hb dL_law_531 (lv_at hl 0 rfl) ?_
          refine lv_sipush (v := 1000) hx hb dL_law_533 (by decide) ?_
          refine lv_irem hx hb dL_law_536 (by decide) ?_
          refine tpi (y := nI (s9 % 8)) ((pk_rem (d := 1000) (by omega) (by omega) (by omega)).trans (congrArg nI (by omega))) ?_
          refine lv_bipush (v := 8) hx hb dL_law_537 (by decide) ?_
          refine lv_icmp_ge (tgt := 590) hx hb dL_law_539 (by decide) (fun c11 => ?_) (fun c11 => ?_)
          · skip
            exact absurd (nge_i (a := s9 % 8) (b := 8) (by omega) (by omega) c11) (by omega)
          · skip
            refine lv_aload_n hx hb dL_law_542 rfl (lv_at hl 11 rfl) ?_
            refine lv_iload hx hb dL_law_543 (lv_at hl 0 rfl) ?_
            refine lv_ldc (v := 100000) hx hb hown (hts _ lk77) dL_law_545 ?_
            refine lv_irem hx hb dL_law_547 (by decide) ?_
            refine tpi (y := nI (1000 * (s9 / 8) + s9 % 8)) ((pk_rem (d := 100000) (by omega) (by omega) (by omega)).trans (congrArg nI (by omega))) ?_
            refine lv_sipush (v := 1000) hx hb dL_law_548 (by decide) ?_
            refine lv_idiv hx hb dL_law_551 (by decide) ?_
            refine tpi (y := nI (s9 / 8)) ((pk_div (d := 1000) (by omega) (by omega) (by omega)).trans (congrArg nI (by omega))) ?_
            refine lv_iload hx hb dL_law_552 (lv_at hl 0 rfl) ?_
            refine lv_sipush (v := 1000) hx hb dL_law_554 (by decide) ?_
            refine lv_irem hx hb dL_law_557 (by decide) ?_
            refine tpi (y := nI (s9 % 8)) ((pk_rem (d := 1000) (by omega) (by omega) (by omega)).trans (congrArg nI (by omega))) ?_
            refine lcI (As := [.int (nI (s9 / 8)), .int (nI (s9 % 8))]) (rest := []) C J I hS (kX4_slot0 (gd_Lg J.1.1) u9 (s9 / 8) (by omega) (pgI (by omega)) (s9 % 8) (by omega) (slI (by omega))) (cwV 2 hts gL_law_X4_slot rfl rfl rfl hdX4_slot ⟨Nat.le_of_ble_eq_true rfl, Nat.le_of_ble_eq_true rfl⟩) rfl rfl rfl hl.1 rfl (Nat.le_of_ble_eq_true rfl) dL_law_558 ⟨hcr2, hsr2⟩ (fun H locs I hS => ?_)
            refine tpi (y := nI ky) (by rw [show s9 / 8 * 8 + s9 % 8 = s9 by omega]; exact hsl9) ?_
            refine lv_iload hx hb dL_law_561 (lv_at hl 2 rfl) ?_
            refine lv_icmp_ne (tgt := 590) hx hb dL_law_563 (by decide) (fun c12 => ?_) (fun c12 => ?_)
            · skip
              exact absurd rfl c12
            · skip
              refine lv_iload hx hb dL_law_566 (lv_at hl 0 rfl) ?_
              refine lv_ldc (v := 100000) hx hb hown (hts _ lk77) dL_law_568 ?_
              refine lv_icmp_lt (tgt := 586) hx hb dL_law_570 (by decide) (fun c13 => ?_) (fun c13 => ?_)
              · skip
                exact absurd (nltI (a := 1000 * (s9 / 8) + s9 % 8 + 100000 * 1) (b := 100000) (by omega) (by omega) c13) (by omega)
              · skip
                refine lv_aload_n hx hb dL_law_573 rfl (lv_at hl 9 rfl) ?_
                refine lv_bipush (v := 6) hx hb dL_law_574 (by decide) ?_
                refine lv_iload hx hb dL_law_576 (lv_at hl 3 rfl) ?_
                refine lv_imul hx hb dL_law_578 ?_
                refine tpi (y := nI (6 * aa)) (pk_mul 6 aa) ?_
                refine lv_iload hx hb dL_law_579 (lv_at hl 2 rfl) ?_
                refine lv_iadd hx hb dL_law_581 ?_
                refine tpi (y := nI (6 * aa + ky)) (nI_add (6 * aa) ky) ?_
                refine hld C I (j := (6 * aa + ky)) (by omega) rfl dL_law_582 ?_
                refine tpi (y := nI m9) em9 ?_
                refine lv_if_lt (tgt := 590) hx hb dL_law_583 (by decide) (fun c14 => ?_) (fun c14 => ?_)
                · skip
                  exact absurd c14 (nI_pos (by omega))
                · skip
                  refine lv_iconst (v := 1) hx hb dL_law_586 (by decide) ?_
                  refine lv_goto (tgt := 591) hx hb dL_law_587 (by decide) ?_
                  refine lv_istore (lv' := [(4, .int 1), (14, .int (nI (1000 * (s9 / 8) + s9 % 8 + 100000 * 1))), (13, .int (nI (yy / 512 % 10000))), (12, .int (nI ky)), (11, .int (nI aa)), (9, .int (nI yy)), (7, .int (nI n)), (6, .int (nI tt)), (5, .int (nI N)), (3, .ref o2), (2, .ref o1), (1, .ref (g 0)), (0, .ref b)]) hx hb dL_law_591 hl (by decide) rfl (fun ls hl => ?_)
                  refine lv_aload_n hx hb dL_law_593 rfl (lv_at hl 9 rfl) ?_
                  refine lv_bipush (v := 6) hx hb dL_law_594 (by decide) ?_
                  refine lv_iload hx hb dL_law_596 (lv_at hl 4 rfl) ?_
                  refine lv_imul hx hb dL_law_598 ?_
                  refine tpi (y := nI (6 * aa)) (pk_mul 6 aa) ?_
                  refine lv_iload hx hb dL_law_599 (lv_at hl 3 rfl) ?_
                  refine lv_iadd hx hb dL_law_601 ?_
                  refine tpi (y := nI (6 * aa + ky)) (nI_add (6 * aa) ky) ?_
                  refine lv_iload hx hb dL_law_602 (lv_at hl 1 rfl) ?_
                  refine lv_bipush (v := (-3)) hx hb dL_law_604 (by decide) ?_
                  refine lv_icmp_ne (tgt := 622) hx hb dL_law_606 (by decide) (fun c15 => ?_) (fun c15 => ?_)
                  · skip
                    refine lv_iload hx hb dL_law_622 (lv_at hl 2 rfl) ?_
                    refine hst C J I hS (j := (6 * aa + ky)) (by omega) rfl dL_law_624 (fun H locs I hS => ?_)
                    refine lv_goto (tgt := 983) hx hb dL_law_625 (by decide) ?_
                    refine W.widen (k := cells + 12) (n := slots + 60) (Nat.add_le_add_left (Nat.le_of_ble_eq_true rfl) cells) (Nat.add_le_add_left (Nat.le_of_ble_eq_true rfl) slots) ?_
                    exact kk _ _ _ _ H locs ls hL9 I hS (lv_sub hl [4, 5, 6, 7, 8, 0, 9, 10, 11, 12] rfl)
                  · skip
                    exact absurd c15 c8
  · skip
    refine lv_aload_n hx hb dL_law_492 rfl (lv_at hl 10 rfl) ?_
    refine lv_aload_n hx hb dL_law_493 rfl (lv_at hl 9 rfl) ?_
    refine lv_iload hx hb dL_law_494 (lv_at hl 2 rfl) ?_
    refine wld C I (j := aa) (by omega) rfl dL_law_496 ?_
    refine lv_iload hx hb dL_law_497 (lv_at hl 1 rfl) ?_
    refine lv_iload hx hb dL_law_499 (lv_at hl 0 rfl) ?_
    refine lwI (As := [.ref (g 0), .int (fw aa), .int (nI ky), .int (nI (yy / 512 % 10000))]) (rest := []) C J I hS hM9 (vx_cwSW 4 hts gL_law_L_writes rfl rfl rfl hdL_writes.2 ⟨Nat.le_of_ble_eq_true rfl, Nat.le_of_ble_eq_true rfl⟩) rfl hl.1 rfl (Nat.le_of_ble_eq_true rfl) dL_law_501 ⟨Nat.le_trans (Nat.add_le_add_left (Nat.le_of_ble_eq_true rfl) cells) hcr, Nat.le_trans (Nat.add_le_add_left (Nat.le_of_ble_eq_true rfl) slots) hsr⟩ (fun H locs I hS => ?_)
    have hcr2 : cells + rmL_writes.cells ≤ room_1.cells := Nat.le_trans (Nat.add_le_add_left (Nat.le_of_ble_eq_true rfl) cells) hcr
    have hsr2 : slots + rmL_writes.slots ≤ room_1.slots := Nat.le_trans (Nat.add_le_add_left (Nat.le_of_ble_eq_true rfl) slots) hsr
    refine lv_istore (lv' := [(14, .int (-3)), (13, .int (nI (yy / 512 % 10000))), (12, .int (nI ky)), (11, .int (nI aa)), (9, .int (nI yy)), (7, .int (nI n)), (6, .int (nI tt)), (5, .int (nI N)), (4, .int 1), (3, .ref o2), (2, .ref o1), (1, .ref (g 0)), (0, .ref b)]) hx hb dL_law_504 hl (by decide) rfl (fun ls hl => ?_)
    refine lv_iload hx hb dL_law_506 (lv_at hl 0 rfl) ?_
    refine lv_bipush (v := (-3)) hx hb dL_law_508 (by decide) ?_
    refine lv_icmp_eq (tgt := 586) hx hb dL_law_510 (by decide) (fun c16 => ?_) (fun c16 => ?_)
    · skip
      refine lv_iconst (v := 1) hx hb dL_law_586 (by decide) ?_
      refine lv_goto (tgt := 591) hx hb dL_law_587 (by decide) ?_
      refine lv_istore (lv' := [(4, .int 1), (14, .int (-3)), (13, .int (nI (yy / 512 % 10000))), (12, .int (nI ky)), (11, .int (nI aa)), (9, .int (nI yy)), (7, .int (nI n)), (6, .int (nI tt)), (5, .int (nI N)), (3, .ref o2), (2, .ref o1), (1, .ref (g 0)), (0, .ref b)]) hx hb dL_law_591 hl (by decide) rfl (fun ls hl => ?_)
      refine lv_aload_n hx hb dL_law_593 rfl (lv_at hl 9 rfl) ?_
      refine lv_bipush (v := 6) hx hb dL_law_594 (by decide) ?_
      refine lv_iload hx hb dL_law_596 (lv_at hl 4 rfl) ?_
      refine lv_imul hx hb dL_law_598 ?_
      refine tpi (y := nI (6 * aa)) (pk_mul 6 aa) ?_
      refine lv_iload hx hb dL_law_599 (lv_at hl 3 rfl) ?_
      refine lv_iadd hx hb dL_law_601 ?_
      refine tpi (y := nI (6 * aa + ky)) (nI_add (6 * aa) ky) ?_
      refine lv_iload hx hb dL_law_602 (lv_at hl 1 rfl) ?_
      refine lv_bipush (v := (-3)) hx hb dL_law_604 (by decide) ?_
      refine lv_icmp_ne (tgt := 622) hx hb dL_law_606 (by decide) (fun c17 => ?_) (fun c17 => ?_)
      · skip
        exact absurd c16 c17
      · skip
        refine lv_aload_n hx hb dL_law_609 rfl (lv_at hl 9 rfl) ?_
        refine lv_bipush (v := 6) hx hb dL_law_610 (by decide) ?_
        refine lv_iload hx hb dL_law_612 (lv_at hl 4 rfl) ?_
        refine lv_imul hx hb dL_law_614 ?_
        refine tpi (y := nI (6 * aa)) (pk_mul 6 aa) ?_
        refine lv_iload hx hb dL_law_615 (lv_at hl 3 rfl) ?_
        refine lv_iadd hx hb dL_law_617 ?_
        refine tpi (y := nI (6 * aa + ky)) (nI_add (6 * aa) ky) ?_
        refine hld C I (j := (6 * aa + ky)) (by omega) rfl dL_law_618 ?_
        refine lv_goto (tgt := 624) hx hb dL_law_619 (by decide) ?_
        refine hst C J I hS (j := (6 * aa + ky)) (by omega) rfl dL_law_624 (fun H locs I hS => ?_)
        refine lv_goto (tgt := 983) hx hb dL_law_625 (by decide) ?_
        refine W.widen (k := cells + 12) (n := slots + 60) (Nat.add_le_add_left (Nat.le_of_ble_eq_true rfl) cells) (Nat.add_le_add_left (Nat.le_of_ble_eq_true rfl) slots) ?_
        exact kk _ _ _ _ H locs ls (by rw [upd_same rfl]; exact lz_up hL) I hS (lv_sub hl [4, 5, 6, 7, 8, 0, 9, 10, 11, 12] rfl)
    · skip
      exact (by first | exact absurd c16 (by decide) | exact absurd rfl c16)

set_option maxHeartbeats 4000000 in
set_option maxRecDepth 100000 in
theorem sg_delete {p : Program} {l : Launch} {e : Env} {s : State} {m : MethodId} {below : List Frame} {meth : Method} {c : Code} {Q : State → Prop} {b L : Nat} {xs : Nat → Int32} {D : va_G} {K : Nat → ClassId} {g : Nat → Nat} {o1 o2 : Nat} {u : CU} {fw hw : AI} {n N tt : Nat} {H : Heap} {locs : List Loc} {ls : Array Slot} {cells slots : Nat} {yy aa ky : Nat} (C : LC p l s m meth c b L xs D K) (J : LD s g o1 o2) (I : LI D K g o1 o2 u fw hw H) (hS : va_S (A0 s) s.heap H locs) (hcr : cells + 12 ≤ room_1.cells) (hsr : slots + 60 ≤ room_1.slots) (hl : lv_has ls 17 [(12, .int (nI ky)), (11, .int (nI aa)), (9, .int (nI yy)), (7, .int (nI n)), (6, .int (nI tt)), (5, .int (nI N)), (4, .int 1), (3, .ref o2), (2, .ref o1), (1, .ref (g 0)), (0, .ref b)]) (hL : LZ n u N fw hw) (hn : n < 340) (haa : aa < 6) (hyy : yy < 268435456) (hky : ky < 6) (hf9 : ¬ fw aa < 0) (kk : ∀ (u2 : CU) (N2 : Nat) (f2 h2 : AI) (H1 : Heap) (locs1 : List Loc) (ls1 : Array Slot), LZ (n + 1) u2 N2 f2 h2 → LI D K g o1 o2 u2 f2 h2 H1 → va_S (A0 s) s.heap H1 locs1 → lv_has ls1 17 [(11, .int (nI aa)), (9, .int (nI yy)), (7, .int (nI n)), (6, .int (nI tt)), (5, .int (nI N2)), (4, .int 1), (3, .ref o2), (2, .ref o1), (1, .ref (g 0)), (0, .ref b)] → W p l e room_1 s m #[.ref b] below meth c H1 locs1 (cells + 12) (slots + 60) Q (F0 m 983 ls1 [])) : W p l e room_1 s m #[.ref b] below meth c H locs cells slots Q (F0 m 642 ls []) := by
  obtain ⟨hx, hb, hml, hown, hts⟩ := C.1
  have hfl := C.2.2.2
  rcases lz_deletes (D := D) (K := K) hL (by omega) haa hf9 hky (gd_Lg J.1.1) hfl with ⟨u9, hh9, hL9, hM9⟩ | ⟨hh9, hM9⟩ | ⟨hh9, hM9⟩
  · skip
    refine lv_aload_n hx hb dL_law_642 rfl (lv_at hl 9 rfl) ?_
    refine lv_aload_n hx hb dL_law_643 rfl (lv_at hl 8 rfl) ?_
    refine lv_iload hx hb dL_law_644 (lv_at hl 1 rfl) ?_
    refine wld C I (j := aa) (by omega) rfl dL_law_646 ?_
    refine lv_iload hx hb dL_law_647 (lv_at hl 0 rfl) ?_
    refine lwI (As := [.ref (g 0), .int (fw aa), .int (nI ky)]) (rest := []) C J I hS hM9 (vx_cwSW 3 hts gL_law_L_deletes rfl rfl rfl hdL_deletes.2 ⟨Nat.le_of_ble_eq_true rfl, Nat.le_of_ble_eq_true rfl⟩) rfl hl.1 rfl (Nat.le_of_ble_eq_true rfl) dL_law_649 ⟨Nat.le_trans (Nat.add_le_add_left (Nat.le_of_ble_eq_true rfl) cells) hcr, Nat.le_trans (Nat.add_le_add_left (Nat.le_of_ble_eq_true rfl) slots) hsr⟩ (fun H locs I hS => ?_)
    have hcr2 : cells + rmL_deletes.cells ≤ room_1.cells := Nat.le_trans (Nat.add_le_add_left (Nat.le_of_ble_eq_true rfl) cells) hcr
    have hsr2 : slots + rmL_deletes.slots ≤ room_1.slots := Nat.le_trans (Nat.add_le_add_left (Nat.le_of_ble_eq_true rfl) slots) hsr
    refine lv_istore (lv' := [(13, .int 1), (12, .int (nI ky)), (11, .int (nI aa)), (9, .int (nI yy)), (7, .int (nI n)), (6, .int (nI tt)), (5, .int (nI N)), (4, .int 1), (3, .ref o2), (2, .ref o1), (1, .ref (g 0)), (0, .ref b)]) hx hb dL_law_652 hl (by decide) rfl (fun ls hl => ?_)
    refine lv_iload hx hb dL_law_654 (lv_at hl 0 rfl) ?_
    refine lv_aload_n hx hb dL_law_656 rfl (lv_at hl 8 rfl) ?_
    refine lv_bipush (v := 6) hx hb dL_law_657 (by decide) ?_
    refine lv_iload hx hb dL_law_659 (lv_at hl 2 rfl) ?_
    refine lv_imul hx hb dL_law_661 ?_
    refine tpi (y := nI (6 * aa)) (pk_mul 6 aa) ?_
    refine lv_iload hx hb dL_law_662 (lv_at hl 1 rfl) ?_
    refine lv_iadd hx hb dL_law_664 ?_
    refine tpi (y := nI (6 * aa + ky)) (nI_add (6 * aa) ky) ?_
    refine hld C I (j := (6 * aa + ky)) (by omega) rfl dL_law_665 ?_
    refine lv_if_ge (tgt := 673) hx hb dL_law_666 (by decide) (fun c1 => ?_) (fun c1 => ?_)
    · skip
      refine lv_iconst (v := 1) hx hb dL_law_673 (by decide) ?_
      refine lv_icmp_eq (tgt := 697) hx hb dL_law_674 (by decide) (fun c2 => ?_) (fun c2 => ?_)
      · skip
        refine lv_iconst (v := 1) hx hb dL_law_697 (by decide) ?_
        refine lv_goto (tgt := 702) hx hb dL_law_698 (by decide) ?_
        refine lv_istore (lv' := [(4, .int 1), (13, .int 1), (12, .int (nI ky)), (11, .int (nI aa)), (9, .int (nI yy)), (7, .int (nI n)), (6, .int (nI tt)), (5, .int (nI N)), (3, .ref o2), (2, .ref o1), (1, .ref (g 0)), (0, .ref b)]) hx hb dL_law_702 hl (by decide) rfl (fun ls hl => ?_)
        refine lv_aload_n hx hb dL_law_704 rfl (lv_at hl 8 rfl) ?_
        refine lv_bipush (v := 6) hx hb dL_law_705 (by decide) ?_
        refine lv_iload hx hb dL_law_707 (lv_at hl 3 rfl) ?_
        refine lv_imul hx hb dL_law_709 ?_
        refine tpi (y := nI (6 * aa)) (pk_mul 6 aa) ?_
        refine lv_iload hx hb dL_law_710 (lv_at hl 2 rfl) ?_
        refine lv_iadd hx hb dL_law_712 ?_
        refine tpi (y := nI (6 * aa + ky)) (nI_add (6 * aa) ky) ?_
        refine lv_iload hx hb dL_law_713 (lv_at hl 1 rfl) ?_
        refine lv_iconst (v := 1) hx hb dL_law_715 (by decide) ?_
        refine lv_icmp_ne (tgt := 723) hx hb dL_law_716 (by decide) (fun c3 => ?_) (fun c3 => ?_)
        · skip
          exact absurd c2 c3
        · skip
          refine lv_iconst (v := (-1)) hx hb dL_law_719 (by decide) ?_
          refine lv_goto (tgt := 733) hx hb dL_law_720 (by decide) ?_
          refine hst C J I hS (j := (6 * aa + ky)) (by omega) rfl dL_law_733 (fun H locs I hS => ?_)
          refine lv_goto (tgt := 983) hx hb dL_law_734 (by decide) ?_
          refine W.widen (k := cells + 12) (n := slots + 60) (Nat.add_le_add_left (Nat.le_of_ble_eq_true rfl) cells) (Nat.add_le_add_left (Nat.le_of_ble_eq_true rfl) slots) ?_
          exact kk _ _ _ _ H locs ls hL9 I hS (lv_sub hl [3, 4, 5, 6, 7, 0, 8, 9, 10, 11] rfl)
      · skip
        exact (by first | exact absurd c2 (by decide) | exact absurd rfl c2)
    · skip
      exact absurd (i_nle c1) hh9
  · skip
    refine lv_aload_n hx hb dL_law_642 rfl (lv_at hl 9 rfl) ?_
    refine lv_aload_n hx hb dL_law_643 rfl (lv_at hl 8 rfl) ?_
    refine lv_iload hx hb dL_law_644 (lv_at hl 1 rfl) ?_
    refine wld C I (j := aa) (by omega) rfl dL_law_646 ?_
    refine lv_iload hx hb dL_law_647 (lv_at hl 0 rfl) ?_
    refine lwI (As := [.ref (g 0), .int (fw aa), .int (nI ky)]) (rest := []) C J I hS hM9 (vx_cwSW 3 hts gL_law_L_deletes rfl rfl rfl hdL_deletes.2 ⟨Nat.le_of_ble_eq_true rfl, Nat.le_of_ble_eq_true rfl⟩) rfl hl.1 rfl (Nat.le_of_ble_eq_true rfl) dL_law_649 ⟨Nat.le_trans (Nat.add_le_add_left (Nat.le_of_ble_eq_true rfl) cells) hcr, Nat.le_trans (Nat.add_le_add_left (Nat.le_of_ble_eq_true rfl) slots) hsr⟩ (fun H locs I hS => ?_)
    have hcr2 : cells + rmL_deletes.cells ≤ room_1.cells := Nat.le_trans (Nat.add_le_add_left (Nat.le_of_ble_eq_true rfl) cells) hcr
    have hsr2 : slots + rmL_deletes.slots ≤ room_1.slots := Nat.le_trans (Nat.add_le_add_left (Nat.le_of_ble_eq_true rfl) slots) hsr
    refine lv_istore (lv' := [(13, .int 0), (12, .int (nI ky)), (11, .int (nI aa)), (9, .int (nI yy)), (7, .int (nI n)), (6, .int (nI tt)), (5, .int (nI N)), (4, .int 1), (3, .ref o2), (2, .ref o1), (1, .ref (g 0)), (0, .ref b)]) hx hb dL_law_652 hl (by decide) rfl (fun ls hl => ?_)
    refine lv_iload hx hb dL_law_654 (lv_at hl 0 rfl) ?_
    refine lv_aload_n hx hb dL_law_656 rfl (lv_at hl 8 rfl) ?_
    refine lv_bipush (v := 6) hx hb dL_law_657 (by decide) ?_
    refine lv_iload hx hb dL_law_659 (lv_at hl 2 rfl) ?_
    refine lv_imul hx hb dL_law_661 ?_
    refine tpi (y := nI (6 * aa)) (pk_mul 6 aa) ?_
    refine lv_iload hx hb dL_law_662 (lv_at hl 1 rfl) ?_
    refine lv_iadd hx hb dL_law_664 ?_
    refine tpi (y := nI (6 * aa + ky)) (nI_add (6 * aa) ky) ?_
    refine hld C I (j := (6 * aa + ky)) (by omega) rfl dL_law_665 ?_
    refine lv_if_ge (tgt := 673) hx hb dL_law_666 (by decide) (fun c4 => ?_) (fun c4 => ?_)
    · skip
      exact absurd hh9 (i_len c4)
    · skip
      refine lv_iconst (v := 0) hx hb dL_law_669 (by decide) ?_
      refine lv_goto (tgt := 674) hx hb dL_law_670 (by decide) ?_
      refine lv_icmp_eq (tgt := 697) hx hb dL_law_674 (by decide) (fun c5 => ?_) (fun c5 => ?_)
      · skip
        refine lv_iconst (v := 1) hx hb dL_law_697 (by decide) ?_
        refine lv_goto (tgt := 702) hx hb dL_law_698 (by decide) ?_
        refine lv_istore (lv' := [(4, .int 1), (13, .int 0), (12, .int (nI ky)), (11, .int (nI aa)), (9, .int (nI yy)), (7, .int (nI n)), (6, .int (nI tt)), (5, .int (nI N)), (3, .ref o2), (2, .ref o1), (1, .ref (g 0)), (0, .ref b)]) hx hb dL_law_702 hl (by decide) rfl (fun ls hl => ?_)
        refine lv_aload_n hx hb dL_law_704 rfl (lv_at hl 8 rfl) ?_
        refine lv_bipush (v := 6) hx hb dL_law_705 (by decide) ?_
        refine lv_iload hx hb dL_law_707 (lv_at hl 3 rfl) ?_
        refine lv_imul hx hb dL_law_709 ?_
        refine tpi (y := nI (6 * aa)) (pk_mul 6 aa) ?_
        refine lv_iload hx hb dL_law_710 (lv_at hl 2 rfl) ?_
        refine lv_iadd hx hb dL_law_712 ?_
        refine tpi (y := nI (6 * aa + ky)) (nI_add (6 * aa) ky) ?_
        refine lv_iload hx hb dL_law_713 (lv_at hl 1 rfl) ?_
        refine lv_iconst (v := 1) hx hb dL_law_715 (by decide) ?_
        refine lv_icmp_ne (tgt := 723) hx hb dL_law_716 (by decide) (fun c6 => ?_) (fun c6 => ?_)
        · skip
          refine lv_aload_n hx hb dL_law_723 rfl (lv_at hl 8 rfl) ?_
          refine lv_bipush (v := 6) hx hb dL_law_724 (by decide) ?_
          refine lv_iload hx hb dL_law_726 (lv_at hl 3 rfl) ?_
          refine lv_imul hx hb dL_law_728 ?_
          refine tpi (y := nI (6 * aa)) (pk_mul 6 aa) ?_
          refine lv_iload hx hb dL_law_729 (lv_at hl 2 rfl) ?_
          refine lv_iadd hx hb dL_law_731 ?_
          refine tpi (y := nI (6 * aa + ky)) (nI_add (6 * aa) ky) ?_
          refine hld C I (j := (6 * aa + ky)) (by omega) rfl dL_law_732 ?_
          refine hst C J I hS (j := (6 * aa + ky)) (by omega) rfl dL_law_733 (fun H locs I hS => ?_)
          refine lv_goto (tgt := 983) hx hb dL_law_734 (by decide) ?_
          refine W.widen (k := cells + 12) (n := slots + 60) (Nat.add_le_add_left (Nat.le_of_ble_eq_true rfl) cells) (Nat.add_le_add_left (Nat.le_of_ble_eq_true rfl) slots) ?_
          exact kk _ _ _ _ H locs ls (by rw [upd_same rfl]; exact lz_up hL) I hS (lv_sub hl [3, 4, 5, 6, 7, 0, 8, 9, 10, 11] rfl)
        · skip
          exact (by first | exact absurd c6 (by decide) | exact absurd rfl c6)
      · skip
        exact (by first | exact absurd c5 (by decide) | exact absurd rfl c5)
  · skip
    refine lv_aload_n hx hb dL_law_642 rfl (lv_at hl 9 rfl) ?_
    refine lv_aload_n hx hb dL_law_643 rfl (lv_at hl 8 rfl) ?_
    refine lv_iload hx hb dL_law_644 (lv_at hl 1 rfl) ?_
    refine wld C I (j := aa) (by omega) rfl dL_law_646 ?_
    refine lv_iload hx hb dL_law_647 (lv_at hl 0 rfl) ?_
    refine lwI (As := [.ref (g 0), .int (fw aa), .int (nI ky)]) (rest := []) C J I hS hM9 (vx_cwSW 3 hts gL_law_L_deletes rfl rfl rfl hdL_deletes.2 ⟨Nat.le_of_ble_eq_true rfl, Nat.le_of_ble_eq_true rfl⟩) rfl hl.1 rfl (Nat.le_of_ble_eq_true rfl) dL_law_649 ⟨Nat.le_trans (Nat.add_le_add_left (Nat.le_of_ble_eq_true rfl) cells) hcr, Nat.le_trans (Nat.add_le_add_left (Nat.le_of_ble_eq_true rfl) slots) hsr⟩ (fun H locs I hS => ?_)
    have hcr2 : cells + rmL_deletes.cells ≤ room_1.cells := Nat.le_trans (Nat.add_le_add_left (Nat.le_of_ble_eq_true rfl) cells) hcr
    have hsr2 : slots + rmL_deletes.slots ≤ room_1.slots := Nat.le_trans (Nat.add_le_add_left (Nat.le_of_ble_eq_true rfl) slots) hsr
    refine lv_istore (lv' := [(13, .int (-3)), (12, .int (nI ky)), (11, .int (nI aa)), (9, .int (nI yy)), (7, .int (nI n)), (6, .int (nI tt)), (5, .int (nI N)), (4, .int 1), (3, .ref o2), (2, .ref o1), (1, .ref (g 0)), (0, .ref b)]) hx hb dL_law_652 hl (by decide) rfl (fun ls hl => ?_)
    refine lv_iload hx hb dL_law_654 (lv_at hl 0 rfl) ?_
    refine lv_aload_n hx hb dL_law_656 rfl (lv_at hl 8 rfl) ?_
    refine lv_bipush (v := 6) hx hb dL_law_657 (by decide) ?_
    refine lv_iload hx hb dL_law_659 (lv_at hl 2 rfl) ?_
    refine lv_imul hx hb dL_law_661 ?_
    refine tpi (y := nI (6 * aa)) (pk_mul 6 aa) ?_
    refine lv_iload hx hb dL_law_662 (lv_at hl 1 rfl) ?_
    refine lv_iadd hx hb dL_law_664 ?_
    refine tpi (y := nI (6 * aa + ky)) (nI_add (6 * aa) ky) ?_
    refine hld C I (j := (6 * aa + ky)) (by omega) rfl dL_law_665 ?_
    refine lv_if_ge (tgt := 673) hx hb dL_law_666 (by decide) (fun c7 => ?_) (fun c7 => ?_)
    · skip
      refine lv_iconst (v := 1) hx hb dL_law_673 (by decide) ?_
      refine lv_icmp_eq (tgt := 697) hx hb dL_law_674 (by decide) (fun c8 => ?_) (fun c8 => ?_)
      · skip
        exact (by first | exact absurd c8 (by decide) | exact absurd rfl c8)
      · skip
        refine lv_iload hx hb dL_law_677 (lv_at hl 0 rfl) ?_
        refine lv_bipush (v := (-3)) hx hb dL_law_679 (by decide) ?_
        refine lv_icmp_ne (tgt := 701) hx hb dL_law_681 (by decide) (fun c9 => ?_) (fun c9 => ?_)
        · skip
          exact (by first | exact absurd c9 (by decide) | exact absurd rfl c9)
        · skip
          refine lv_aload_n hx hb dL_law_684 rfl (lv_at hl 8 rfl) ?_
          refine lv_bipush (v := 6) hx hb dL_law_685 (by decide) ?_
          refine lv_iload hx hb dL_law_687 (lv_at hl 2 rfl) ?_
          refine lv_imul hx hb dL_law_689 ?_
          refine tpi (y := nI (6 * aa)) (pk_mul 6 aa) ?_
          refine lv_iload hx hb dL_law_690 (lv_at hl 1 rfl) ?_
          refine lv_iadd hx hb dL_law_692 ?_
          refine tpi (y := nI (6 * aa + ky)) (nI_add (6 * aa) ky) ?_
          refine hld C I (j := (6 * aa + ky)) (by omega) rfl dL_law_693 ?_
          refine lv_if_lt (tgt := 701) hx hb dL_law_694 (by decide) (fun c10 => ?_) (fun c10 => ?_)
          · skip
            exact absurd c10 hh9
          · skip
            refine lv_iconst (v := 1) hx hb dL_law_697 (by decide) ?_
            refine lv_goto (tgt := 702) hx hb dL_law_698 (by decide) ?_
            refine lv_istore (lv' := [(4, .int 1), (13, .int (-3)), (12, .int (nI ky)), (11, .int (nI aa)), (9, .int (nI yy)), (7, .int (nI n)), (6, .int (nI tt)), (5, .int (nI N)), (3, .ref o2), (2, .ref o1), (1, .ref (g 0)), (0, .ref b)]) hx hb dL_law_702 hl (by decide) rfl (fun ls hl => ?_)
            refine lv_aload_n hx hb dL_law_704 rfl (lv_at hl 8 rfl) ?_
            refine lv_bipush (v := 6) hx hb dL_law_705 (by decide) ?_
            refine lv_iload hx hb dL_law_707 (lv_at hl 3 rfl) ?_
            refine lv_imul hx hb dL_law_709 ?_
            refine tpi (y := nI (6 * aa)) (pk_mul 6 aa) ?_
            refine lv_iload hx hb dL_law_710 (lv_at hl 2 rfl) ?_
            refine lv_iadd hx hb dL_law_712 ?_
            refine tpi (y := nI (6 * aa + ky)) (nI_add (6 * aa) ky) ?_
            refine lv_iload hx hb dL_law_713 (lv_at hl 1 rfl) ?_
            refine lv_iconst (v := 1) hx hb dL_law_715 (by decide) ?_
            refine lv_icmp_ne (tgt := 723) hx hb dL_law_716 (by decide) (fun c11 => ?_) (fun c11 => ?_)
            · skip
              refine lv_aload_n hx hb dL_law_723 rfl (lv_at hl 8 rfl) ?_
              refine lv_bipush (v := 6) hx hb dL_law_724 (by decide) ?_
              refine lv_iload hx hb dL_law_726 (lv_at hl 3 rfl) ?_
              refine lv_imul hx hb dL_law_728 ?_
              refine tpi (y := nI (6 * aa)) (pk_mul 6 aa) ?_
              refine lv_iload hx hb dL_law_729 (lv_at hl 2 rfl) ?_
              refine lv_iadd hx hb dL_law_731 ?_
              refine tpi (y := nI (6 * aa + ky)) (nI_add (6 * aa) ky) ?_
              refine hld C I (j := (6 * aa + ky)) (by omega) rfl dL_law_732 ?_
              refine hst C J I hS (j := (6 * aa + ky)) (by omega) rfl dL_law_733 (fun H locs I hS => ?_)
              refine lv_goto (tgt := 983) hx hb dL_law_734 (by decide) ?_
              refine W.widen (k := cells + 12) (n := slots + 60) (Nat.add_le_add_left (Nat.le_of_ble_eq_true rfl) cells) (Nat.add_le_add_left (Nat.le_of_ble_eq_true rfl) slots) ?_
              exact kk _ _ _ _ H locs ls (by rw [upd_same rfl]; exact lz_up hL) I hS (lv_sub hl [3, 4, 5, 6, 7, 0, 8, 9, 10, 11] rfl)
            · skip
              exact absurd c11 c8
    · skip
      exact absurd (i_nle c7) hh9

/-! ===== the law: a turn ===== -/
set_option maxHeartbeats 4000000 in
set_option maxRecDepth 100000 in
theorem sg_turn {p : Program} {l : Launch} {e : Env} {s : State} {m : MethodId} {below : List Frame} {meth : Method} {c : Code} {Q : State → Prop} {b L : Nat} {xs : Nat → Int32} {D : va_G} {K : Nat → ClassId} {g : Nat → Nat} {o1 o2 : Nat} {u : CU} {fw hw : AI} {n N tt : Nat} {H : Heap} {locs : List Loc} {ls : Array Slot} {cells slots : Nat} (C : LC p l s m meth c b L xs D K) (J : LD s g o1 o2) (I : LI D K g o1 o2 u fw hw H) (hS : va_S (A0 s) s.heap H locs) (hcr : cells + 12 ≤ room_1.cells) (hsr : slots + 60 ≤ room_1.slots) (hl : lv_has ls 17 [(7, .int (nI n)), (6, .int (nI tt)), (5, .int (nI N)), (4, .int 1), (3, .ref o2), (2, .ref o1), (1, .ref (g 0)), (0, .ref b)]) (hL : LZ n u N fw hw) (hn : n < 340) (kk : ∀ (yy aa : Nat), yy < 268435456 → aa < 6 → ∀ (u2 : CU) (N2 : Nat) (f2 h2 : AI) (H1 : Heap) (locs1 : List Loc) (ls1 : Array Slot), LZ (n + 1) u2 N2 f2 h2 → LI D K g o1 o2 u2 f2 h2 H1 → va_S (A0 s) s.heap H1 locs1 → lv_has ls1 17 [(11, .int (nI aa)), (9, .int (nI yy)), (7, .int (nI n)), (6, .int (nI tt)), (5, .int (nI N2)), (4, .int 1), (3, .ref o2), (2, .ref o1), (1, .ref (g 0)), (0, .ref b)] → W p l e room_1 s m #[.ref b] below meth c H1 locs1 (cells + 12) (slots + 60) Q (F0 m 983 ls1 [])) : W p l e room_1 s m #[.ref b] below meth c H locs cells slots Q (F0 m 95 ls []) := by
  obtain ⟨hx, hb, hml, hown, hts⟩ := C.1
  have hfl := C.2.2.2
  have hL9 := C.2.1.2.2
  have j126 : ∀ (xx : Int32), W p l e room_1 s m #[.ref b] below meth c H locs cells slots Q (F0 m 126 ls [.int xx]) := by
    intro xx
    refine lv_istore (lv' := [(8, .int xx), (7, .int (nI n)), (6, .int (nI tt)), (5, .int (nI N)), (4, .int 1), (3, .ref o2), (2, .ref o1), (1, .ref (g 0)), (0, .ref b)]) hx hb dL_law_126 hl (by decide) rfl (fun ls hl => ?_)
    refine lv_iload hx hb dL_law_128 (lv_at hl 0 rfl) ?_
    refine lv_iconst (v := 4) hx hb dL_law_130 (by decide) ?_
    refine lv_ishr hx hb dL_law_131 ?_
    refine lv_ldc (v := 268435455) hx hb hown (hts _ lk64) dL_law_132 ?_
    refine lv_iand hx hb dL_law_134 ?_
    obtain ⟨yy, hyy, eyy⟩ := and28 (xx >>> (4 &&& 31))
    refine tpi (y := nI yy) eyy ?_
    refine lv_istore (lv' := [(9, .int (nI yy)), (8, .int xx), (7, .int (nI n)), (6, .int (nI tt)), (5, .int (nI N)), (4, .int 1), (3, .ref o2), (2, .ref o1), (1, .ref (g 0)), (0, .ref b)]) hx hb dL_law_135 hl (by decide) rfl (fun ls hl => ?_)
    have j152 : ∀ (dd : Int32), W p l e room_1 s m #[.ref b] below meth c H locs cells slots Q (F0 m 152 ls [.int dd]) := by
      intro dd
      refine lv_istore (lv' := [(10, .int dd), (9, .int (nI yy)), (8, .int xx), (7, .int (nI n)), (6, .int (nI tt)), (5, .int (nI N)), (4, .int 1), (3, .ref o2), (2, .ref o1), (1, .ref (g 0)), (0, .ref b)]) hx hb dL_law_152 hl (by decide) rfl (fun ls hl => ?_)
      refine lv_iload hx hb dL_law_154 (lv_at hl 1 rfl) ?_
      refine lv_bipush (v := 6) hx hb dL_law_156 (by decide) ?_
      refine lv_irem hx hb dL_law_158 (by decide) ?_
      refine tpi (y := nI (yy % 6)) (pk_rem (d := 6) (by omega) (by omega) (by omega)) ?_
      refine lv_istore (lv' := [(11, .int (nI (yy % 6))), (10, .int dd), (9, .int (nI yy)), (8, .int xx), (7, .int (nI n)), (6, .int (nI tt)), (5, .int (nI N)), (4, .int 1), (3, .ref o2), (2, .ref o1), (1, .ref (g 0)), (0, .ref b)]) hx hb dL_law_159 hl (by decide) rfl (fun ls hl => ?_)
      refine lv_iconst (v := 0) hx hb dL_law_161 (by decide) ?_
      refine lv_istore (lv' := [(12, .int 0), (11, .int (nI (yy % 6))), (10, .int dd), (9, .int (nI yy)), (8, .int xx), (7, .int (nI n)), (6, .int (nI tt)), (5, .int (nI N)), (4, .int 1), (3, .ref o2), (2, .ref o1), (1, .ref (g 0)), (0, .ref b)]) hx hb dL_law_162 hl (by decide) rfl (fun ls hl => ?_)
      have loop164 : ∀ (n164 : Nat) (k6 : Nat) (aa : Nat), (k6 ≤ 6) → (aa < 6) → 6 - k6 < n164 → ∀ (H : Heap) (locs : List Loc), LI D K g o1 o2 u fw hw H → va_S (A0 s) s.heap H locs → ∀ (ls : Array Slot), lv_has ls 17 [(12, .int (nI k6)), (11, .int (nI aa)), (10, .int dd), (9, .int (nI yy)), (8, .int xx), (7, .int (nI n)), (6, .int (nI tt)), (5, .int (nI N)), (4, .int 1), (3, .ref o2), (2, .ref o1), (1, .ref (g 0)), (0, .ref b)] → W p l e room_1 s m #[.ref b] below meth c H locs cells slots Q (F0 m 164 ls []) := by
        intro n164
        induction n164 with
        | zero =>
          intro k6 aa hk6 haa hn164
          exact absurd hn164 (Nat.not_lt_zero _)
        | succ n164 ih164 =>
          intro k6 aa hk6 haa hn164 H locs I hS ls hl
          refine lv_iload hx hb dL_law_164 (lv_at hl 0 rfl) ?_
          refine lv_bipush (v := 6) hx hb dL_law_166 (by decide) ?_
          refine lv_icmp_ge (tgt := 198) hx hb dL_law_168 (by decide) (fun c1 => ?_) (fun c1 => ?_)
          · skip
            have e6 : k6 = 6 := by have := nge_i (a := k6) (b := 6) (by omega) (by omega) c1; omega
            subst e6
            refine lv_iload hx hb dL_law_198 (lv_at hl 3 rfl) ?_
            refine lv_bipush (v := 6) hx hb dL_law_200 (by decide) ?_
            refine lv_ishr hx hb dL_law_202 ?_
            refine tpi (y := nI (yy / 64)) (shr6 (by omega)) ?_
            refine lv_bipush (v := 6) hx hb dL_law_203 (by decide) ?_
            refine lv_irem hx hb dL_law_205 (by decide) ?_
            refine tpi (y := nI (yy / 64 % 6)) (pk_rem (d := 6) (by omega) (by omega) (by omega)) ?_
            refine lv_istore (lv' := [(12, .int (nI (yy / 64 % 6))), (11, .int (nI aa)), (10, .int dd), (9, .int (nI yy)), (8, .int xx), (7, .int (nI n)), (6, .int (nI tt)), (5, .int (nI N)), (4, .int 1), (3, .ref o2), (2, .ref o1), (1, .ref (g 0)), (0, .ref b)]) hx hb dL_law_206 hl (by decide) rfl (fun ls hl => ?_)
            have j737 : W p l e room_1 s m #[.ref b] below meth c H locs cells slots Q (F0 m 737 ls []) := by
              skip
              refine lv_iload hx hb dL_law_737 (lv_at hl 2 rfl) ?_
              refine lv_bipush (v := 14) hx hb dL_law_739 (by decide) ?_
              refine lv_icmp_ge (tgt := 832) hx hb dL_law_741 (by decide) (fun c2 => ?_) (fun c2 => ?_)
              · skip
                refine lv_iload hx hb dL_law_832 (lv_at hl 2 rfl) ?_
                refine lv_bipush (v := 14) hx hb dL_law_834 (by decide) ?_
                refine lv_icmp_ne (tgt := 945) hx hb dL_law_836 (by decide) (fun c3 => ?_) (fun c3 => ?_)
                · skip
                  exact sg_fz C J I hS hcr hsr (lv_sub hl [0, 1, 3, 5, 6, 7, 8, 9, 10, 11, 12] rfl) hL hn haa hyy (show yy / 64 % 6 < 6 from Nat.mod_lt _ (by decide)) (kk yy aa hyy haa)
                · skip
                  exact sg_jump C J I hS hcr hsr (lv_sub hl [0, 1, 3, 5, 6, 7, 8, 9, 10, 11, 12] rfl) hL hn haa hyy (show yy / 64 % 6 < 6 from Nat.mod_lt _ (by decide)) (kk yy aa hyy haa)
              · skip
                exact sg_clean C J I hS hcr hsr (lv_sub hl [0, 1, 3, 5, 6, 7, 8, 9, 10, 11, 12] rfl) hL hn haa hyy (show yy / 64 % 6 < 6 from Nat.mod_lt _ (by decide)) (kk yy aa hyy haa)
            have j628 : W p l e room_1 s m #[.ref b] below meth c H locs cells slots Q (F0 m 628 ls []) := by
              skip
              refine lv_iload hx hb dL_law_628 (lv_at hl 2 rfl) ?_
              refine lv_bipush (v := 9) hx hb dL_law_630 (by decide) ?_
              refine lv_icmp_ne (tgt := 737) hx hb dL_law_632 (by decide) (fun c4 => ?_) (fun c4 => ?_)
              · skip
                exact j737
              · skip
                refine lv_aload_n hx hb dL_law_635 rfl (lv_at hl 10 rfl) ?_
                refine lv_iload hx hb dL_law_636 (lv_at hl 1 rfl) ?_
                refine wld C I (j := aa) (by omega) rfl dL_law_638 ?_
                refine lv_if_lt (tgt := 737) hx hb dL_law_639 (by decide) (fun c5 => ?_) (fun c5 => ?_)
                · skip
                  exact j737
                · skip
                  exact sg_delete C J I hS hcr hsr (lv_sub hl [0, 1, 3, 5, 6, 7, 8, 9, 10, 11, 12] rfl) hL hn haa hyy (show yy / 64 % 6 < 6 from Nat.mod_lt _ (by decide)) c5 (kk yy aa hyy haa)
            have j467 : W p l e room_1 s m #[.ref b] below meth c H locs cells slots Q (F0 m 467 ls []) := by
              skip
              refine lv_iload hx hb dL_law_467 (lv_at hl 2 rfl) ?_
              refine lv_bipush (v := 9) hx hb dL_law_469 (by decide) ?_
              refine lv_icmp_ge (tgt := 628) hx hb dL_law_471 (by decide) (fun c6 => ?_) (fun c6 => ?_)
              · skip
                exact j628
              · skip
                refine lv_aload_n hx hb dL_law_474 rfl (lv_at hl 10 rfl) ?_
                refine lv_iload hx hb dL_law_475 (lv_at hl 1 rfl) ?_
                refine wld C I (j := aa) (by omega) rfl dL_law_477 ?_
                refine lv_if_lt (tgt := 628) hx hb dL_law_478 (by decide) (fun c7 => ?_) (fun c7 => ?_)
                · skip
                  exact j628
                · skip
                  exact sg_write C J I hS hcr hsr (lv_sub hl [0, 1, 3, 5, 6, 7, 8, 9, 10, 11, 12] rfl) hL hn haa hyy (show yy / 64 % 6 < 6 from Nat.mod_lt _ (by decide)) c7 (kk yy aa hyy haa)
            refine lv_iload hx hb dL_law_208 (lv_at hl 2 rfl) ?_
            refine lv_iconst (v := 2) hx hb dL_law_210 (by decide) ?_
            refine lv_icmp_ge (tgt := 371) hx hb dL_law_211 (by decide) (fun c8 => ?_) (fun c8 => ?_)
            · skip
              refine lv_iload hx hb dL_law_371 (lv_at hl 2 rfl) ?_
              refine lv_iconst (v := 4) hx hb dL_law_373 (by decide) ?_
              refine lv_icmp_ge (tgt := 467) hx hb dL_law_374 (by decide) (fun c9 => ?_) (fun c9 => ?_)
              · skip
                exact j467
              · skip
                refine lv_aload_n hx hb dL_law_377 rfl (lv_at hl 10 rfl) ?_
                refine lv_iload hx hb dL_law_378 (lv_at hl 1 rfl) ?_
                refine wld C I (j := aa) (by omega) rfl dL_law_380 ?_
                refine lv_if_lt (tgt := 467) hx hb dL_law_381 (by decide) (fun c10 => ?_) (fun c10 => ?_)
                · skip
                  exact j467
                · skip
                  exact sg_end C J I hS hcr hsr (lv_sub hl [0, 1, 3, 5, 6, 7, 8, 9, 10, 11, 12] rfl) hL hn haa hyy (show yy / 64 % 6 < 6 from Nat.mod_lt _ (by decide)) c10 (kk yy aa hyy haa)
            · skip
              exact sg_begin C J I hS hcr hsr (lv_sub hl [0, 1, 3, 5, 6, 7, 8, 9, 10, 11, 12] rfl) hL hn haa hyy (show yy / 64 % 6 < 6 from Nat.mod_lt _ (by decide)) (kk yy aa hyy haa)
          · skip
            have hlt : k6 < 6 := nlt_i (a := k6) (b := 6) (by omega) (by omega) c1
            refine lv_aload_n hx hb dL_law_171 rfl (lv_at hl 10 rfl) ?_
            refine lv_iload hx hb dL_law_172 (lv_at hl 1 rfl) ?_
            refine wld C I (j := aa) (by omega) rfl dL_law_174 ?_
            refine lv_if_lt (tgt := 183) hx hb dL_law_175 (by decide) (fun c11 => ?_) (fun c11 => ?_)
            · skip
              refine lv_iload hx hb dL_law_183 (lv_at hl 1 rfl) ?_
              refine lv_iconst (v := 1) hx hb dL_law_185 (by decide) ?_
              refine lv_iadd hx hb dL_law_186 ?_
              refine tpi (y := nI (aa + 1)) (nI_1 aa) ?_
              refine lv_bipush (v := 6) hx hb dL_law_187 (by decide) ?_
              refine lv_irem hx hb dL_law_189 (by decide) ?_
              refine tpi (y := nI ((aa + 1) % 6)) (pk_rem (d := 6) (by omega) (by omega) (by omega)) ?_
              refine lv_istore (lv' := [(11, .int (nI ((aa + 1) % 6))), (12, .int (nI k6)), (10, .int dd), (9, .int (nI yy)), (8, .int xx), (7, .int (nI n)), (6, .int (nI tt)), (5, .int (nI N)), (4, .int 1), (3, .ref o2), (2, .ref o1), (1, .ref (g 0)), (0, .ref b)]) hx hb dL_law_190 hl (by decide) rfl (fun ls hl => ?_)
              refine lv_iinc (v := nI (k6 + 1)) (lv' := [(12, .int (nI (k6 + 1))), (11, .int (nI ((aa + 1) % 6))), (10, .int dd), (9, .int (nI yy)), (8, .int xx), (7, .int (nI n)), (6, .int (nI tt)), (5, .int (nI N)), (4, .int 1), (3, .ref o2), (2, .ref o1), (1, .ref (g 0)), (0, .ref b)]) hx hb dL_law_192 hl (k := 1) rfl (nI_1 k6) (by decide) rfl (fun ls hl => ?_)
              refine lv_goto (tgt := 164) hx hb dL_law_195 (by decide) ?_
              exact ih164 (k6 + 1) ((aa + 1) % 6) hlt (by omega) (ms_s hlt hn164) _ _ I hS ls (lv_sub hl [0, 1, 2, 3, 4, 5, 6, 7, 8, 9, 10, 11, 12] rfl)
            · skip
              refine lv_iload hx hb dL_law_178 (lv_at hl 1 rfl) ?_
              refine lv_goto (tgt := 190) hx hb dL_law_180 (by decide) ?_
              refine lv_istore (lv' := [(11, .int (nI aa)), (12, .int (nI k6)), (10, .int dd), (9, .int (nI yy)), (8, .int xx), (7, .int (nI n)), (6, .int (nI tt)), (5, .int (nI N)), (4, .int 1), (3, .ref o2), (2, .ref o1), (1, .ref (g 0)), (0, .ref b)]) hx hb dL_law_190 hl (by decide) rfl (fun ls hl => ?_)
              refine lv_iinc (v := nI (k6 + 1)) (lv' := [(12, .int (nI (k6 + 1))), (11, .int (nI aa)), (10, .int dd), (9, .int (nI yy)), (8, .int xx), (7, .int (nI n)), (6, .int (nI tt)), (5, .int (nI N)), (4, .int 1), (3, .ref o2), (2, .ref o1), (1, .ref (g 0)), (0, .ref b)]) hx hb dL_law_192 hl (k := 1) rfl (nI_1 k6) (by decide) rfl (fun ls hl => ?_)
              refine lv_goto (tgt := 164) hx hb dL_law_195 (by decide) ?_
              exact ih164 (k6 + 1) aa hlt (by omega) (ms_s hlt hn164) _ _ I hS ls (lv_sub hl [0, 1, 2, 3, 4, 5, 6, 7, 8, 9, 10, 11, 12] rfl)
      exact loop164 _ 0 (yy % 6) (by omega) (Nat.mod_lt _ (by decide)) (Nat.lt_succ_self _) _ _ I hS ls (lv_sub hl [0, 1, 2, 3, 4, 5, 6, 7, 8, 9, 10, 11, 12] rfl)
    refine lv_iload hx hb dL_law_137 (lv_at hl 2 rfl) ?_
    refine lv_iconst (v := 2) hx hb dL_law_139 (by decide) ?_
    refine lv_icmp_ge (tgt := 147) hx hb dL_law_140 (by decide) (fun c12 => ?_) (fun c12 => ?_)
    · skip
      refine lv_iload hx hb dL_law_147 (lv_at hl 1 rfl) ?_
      refine lv_bipush (v := 15) hx hb dL_law_149 (by decide) ?_
      refine lv_iand hx hb dL_law_151 ?_
      exact j152 _
    · skip
      refine lv_iconst (v := 0) hx hb dL_law_143 (by decide) ?_
      refine lv_goto (tgt := 152) hx hb dL_law_144 (by decide) ?_
      exact j152 _
  refine lv_iload hx hb dL_law_95 (lv_at hl 0 rfl) ?_
  refine lv_aload_n hx hb dL_law_97 rfl (lv_at hl 7 rfl) ?_
  refine sln C hS dL_law_98 ?_
  refine lv_icmp_ge (tgt := 109) hx hb dL_law_99 (by decide) (fun c13 => ?_) (fun c13 => ?_)
  · skip
    refine lv_ldc (v := 1770017) hx hb hown (hts _ lk62) dL_law_109 ?_
    refine lv_iload hx hb dL_law_111 (lv_at hl 0 rfl) ?_
    refine lv_imul hx hb dL_law_113 ?_
    refine lv_iload hx hb dL_law_114 (lv_at hl 0 rfl) ?_
    refine lv_imul hx hb dL_law_116 ?_
    refine lv_ldc (v := 59009) hx hb hown (hts _ lk63) dL_law_117 ?_
    refine lv_iload hx hb dL_law_119 (lv_at hl 0 rfl) ?_
    refine lv_imul hx hb dL_law_121 ?_
    refine lv_iadd hx hb dL_law_122 ?_
    refine lv_bipush (v := 90) hx hb dL_law_123 (by decide) ?_
    refine lv_iadd hx hb dL_law_125 ?_
    exact j126 _
  · skip
    have hnL : n < L := nlt_i (a := n) (b := L) (by omega) (by omega) c13
    refine lv_aload_n hx hb dL_law_102 rfl (lv_at hl 7 rfl) ?_
    refine lv_iload hx hb dL_law_103 (lv_at hl 0 rfl) ?_
    refine sld C hS (j := n) (by omega) rfl dL_law_105 ?_
    refine lv_goto (tgt := 126) hx hb dL_law_106 (by decide) ?_
    exact j126 _

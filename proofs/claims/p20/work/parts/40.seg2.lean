/-! ===== the law in pieces: clean, jump, setFreezing, the looks behind each turn ===== -/
set_option maxHeartbeats 4000000 in
set_option maxRecDepth 100000 in
theorem sg_clean {p : Program} {l : Launch} {e : Env} {s : State} {m : MethodId} {below : List Frame} {meth : Method} {c : Code} {Q : State → Prop} {b L : Nat} {xs : Nat → Int32} {D : va_G} {K : Nat → ClassId} {g : Nat → Nat} {o1 o2 : Nat} {u : CU} {fw hw : AI} {n N tt : Nat} {H : Heap} {locs : List Loc} {ls : Array Slot} {cells slots : Nat} {yy aa ky : Nat} (C : LC p l s m meth c b L xs D K) (J : LD s g o1 o2) (I : LI D K g o1 o2 u fw hw H) (hS : va_S (A0 s) s.heap H locs) (hcr : cells + 12 ≤ room_1.cells) (hsr : slots + 60 ≤ room_1.slots) (hl : lv_has ls 17 [(12, .int (nI ky)), (11, .int (nI aa)), (9, .int (nI yy)), (7, .int (nI n)), (6, .int (nI tt)), (5, .int (nI N)), (4, .int 1), (3, .ref o2), (2, .ref o1), (1, .ref (g 0)), (0, .ref b)]) (hL : LZ n u N fw hw) (hn : n < 340) (haa : aa < 6) (hyy : yy < 268435456) (hky : ky < 6) (kk : ∀ (u2 : CU) (N2 : Nat) (f2 h2 : AI) (H1 : Heap) (locs1 : List Loc) (ls1 : Array Slot), LZ (n + 1) u2 N2 f2 h2 → LI D K g o1 o2 u2 f2 h2 H1 → va_S (A0 s) s.heap H1 locs1 → lv_has ls1 17 [(11, .int (nI aa)), (9, .int (nI yy)), (7, .int (nI n)), (6, .int (nI tt)), (5, .int (nI N2)), (4, .int 1), (3, .ref o2), (2, .ref o1), (1, .ref (g 0)), (0, .ref b)] → W p l e room_1 s m #[.ref b] below meth c H1 locs1 (cells + 12) (slots + 60) Q (F0 m 983 ls1 [])) : W p l e room_1 s m #[.ref b] below meth c H locs cells slots Q (F0 m 744 ls []) := by
  obtain ⟨hx, hb, hml, hown, hts⟩ := C.1
  have hfl := C.2.2.2
  obtain ⟨h60, hcn⟩ := lz_N hL
  have j761 : ∀ (a9 : Nat) (ha9 : a9 < 4), W p l e room_1 s m #[.ref b] below meth c H locs cells slots Q (F0 m 761 ls [.int (nI a9)]) := by
    intro a9 ha9
    obtain ⟨hL1, hfu, hmp, hc0, hMc⟩ := lz_clean hL ha9
    obtain ⟨hL2, hfu2, hmp2, hc02, hMc2⟩ := lz_clean hL1 ha9
    have hf8 := ful_le (u := u) (a := a9) 8
    refine lv_istore (lv' := [(13, .int (nI a9)), (12, .int (nI ky)), (11, .int (nI aa)), (9, .int (nI yy)), (7, .int (nI n)), (6, .int (nI tt)), (5, .int (nI N)), (4, .int 1), (3, .ref o2), (2, .ref o1), (1, .ref (g 0)), (0, .ref b)]) hx hb dL_law_761 hl (by decide) rfl (fun ls hl => ?_)
    refine lv_aload_n hx hb dL_law_763 rfl (lv_at hl 10 rfl) ?_
    refine lv_iload hx hb dL_law_764 (lv_at hl 0 rfl) ?_
    refine lcF (As := [.int (nI a9)]) (rest := []) C J I hS (kX4_fullness0 (gd_Lg J.1.1) u a9 ha9 (pgI ha9)) (cwV 1 hts gL_law_X4_fullness rfl rfl rfl hdX4_fullness ⟨Nat.le_of_ble_eq_true rfl, Nat.le_of_ble_eq_true rfl⟩) rfl rfl rfl hl.1 rfl (Nat.le_of_ble_eq_true rfl) dL_law_766 ⟨Nat.le_trans (Nat.le_add_right _ _) hcr, Nat.le_trans (Nat.le_add_right _ _) hsr⟩ (fun H locs I hS => ?_)
    refine lv_fstore (lv' := [(14, .float (fdv (ful u a9 8))), (13, .int (nI a9)), (12, .int (nI ky)), (11, .int (nI aa)), (9, .int (nI yy)), (7, .int (nI n)), (6, .int (nI tt)), (5, .int (nI N)), (4, .int 1), (3, .ref o2), (2, .ref o1), (1, .ref (g 0)), (0, .ref b)]) hx hb dL_law_769 hl (by decide) rfl (fun ls hl => ?_)
    refine lv_aload_n hx hb dL_law_771 rfl (lv_at hl 11 rfl) ?_
    refine lv_iload hx hb dL_law_772 (lv_at hl 1 rfl) ?_
    refine lcI (As := [.int (nI a9)]) (rest := []) C J I hS (hMc (gd_Lg J.1.1)) (cwV 1 hts gL_law_X4_clean rfl rfl rfl hdX4_clean ⟨Nat.le_of_ble_eq_true rfl, Nat.le_of_ble_eq_true rfl⟩) rfl rfl rfl hl.1 rfl (Nat.le_of_ble_eq_true rfl) dL_law_774 ⟨Nat.le_trans (Nat.le_add_right _ _) hcr, Nat.le_trans (Nat.le_add_right _ _) hsr⟩ (fun H locs I hS => ?_)
    refine lv_istore (lv' := [(15, .int (nI (cln u (stl u N) a9 8).2)), (14, .float (fdv (ful u a9 8))), (13, .int (nI a9)), (12, .int (nI ky)), (11, .int (nI aa)), (9, .int (nI yy)), (7, .int (nI n)), (6, .int (nI tt)), (5, .int (nI N)), (4, .int 1), (3, .ref o2), (2, .ref o1), (1, .ref (g 0)), (0, .ref b)]) hx hb dL_law_777 hl (by decide) rfl (fun ls hl => ?_)
    refine lv_aload_n hx hb dL_law_779 rfl (lv_at hl 12 rfl) ?_
    refine lv_iload hx hb dL_law_780 (lv_at hl 2 rfl) ?_
    refine lcF (As := [.int (nI a9)]) (rest := []) C J I hS (kX4_fullness0 (gd_Lg J.1.1) (ccl u N a9) a9 ha9 (pgI ha9)) (cwV 1 hts gL_law_X4_fullness rfl rfl rfl hdX4_fullness ⟨Nat.le_of_ble_eq_true rfl, Nat.le_of_ble_eq_true rfl⟩) rfl rfl rfl hl.1 rfl (Nat.le_of_ble_eq_true rfl) dL_law_782 ⟨Nat.le_trans (Nat.le_add_right _ _) hcr, Nat.le_trans (Nat.le_add_right _ _) hsr⟩ (fun H locs I hS => ?_)
    refine lv_fload hx hb dL_law_785 (lv_at hl 1 rfl) ?_
    refine lv_iload hx hb dL_law_787 (lv_at hl 0 rfl) ?_
    refine lv_i2f hx hb dL_law_789 ?_
    refine lv_ldcf (v := 1090519040) hx hb hown (hts _ lk38) dL_law_790 ?_
    refine lv_fdiv hx hb dL_law_792 (fdv_all (cln u (stl u N) a9 8).2 (by omega)) ?_
    refine lv_fsub hx hb dL_law_793 (by have z9 := fl_a (ful (ccl u N a9) a9 8) (by omega) (cln u (stl u N) a9 8).2 (by omega); rw [← hfu] at z9; exact z9) ?_
    refine lv_fcmp hx hb dL_law_794 ?_
    refine tpi (y := 0) (by have z9 := fl_c (ful (ccl u N a9) a9 8) (by omega) (cln u (stl u N) a9 8).2 (by omega); rw [← hfu] at z9; exact z9) ?_
    refine lv_if_ne (tgt := 826) hx hb dL_law_795 (by decide) (fun c1 => ?_) (fun c1 => ?_)
    · skip
      exact (by first | exact absurd c1 (by decide) | exact absurd (by decide) c1)
    · skip
      refine lv_aload_n hx hb dL_law_798 rfl (lv_at hl 12 rfl) ?_
      refine lv_iload hx hb dL_law_799 (lv_at hl 2 rfl) ?_
      refine lcI (As := [.int (nI a9)]) (rest := []) C J I hS (kX4_isMapped0 (gd_Lg J.1.1) (ccl u N a9) a9 ha9 (pgI ha9) (lz_mp hL1 ha9)) (cwV 1 hts gL_law_X4_isMapped rfl rfl rfl hdX4_isMapped ⟨Nat.le_of_ble_eq_true rfl, Nat.le_of_ble_eq_true rfl⟩) rfl rfl rfl hl.1 rfl (Nat.le_of_ble_eq_true rfl) dL_law_801 ⟨Nat.le_trans (Nat.le_add_right _ _) hcr, Nat.le_trans (Nat.le_add_right _ _) hsr⟩ (fun H locs I hS => ?_)
      refine tpi (y := fb (whP (ccl u N a9) a9 (stl (ccl u N a9) N))) hmp ?_
      refine lv_aload_n hx hb dL_law_804 rfl (lv_at hl 12 rfl) ?_
      refine lv_iload hx hb dL_law_805 (lv_at hl 2 rfl) ?_
      refine lcI (As := [.int (nI a9)]) (rest := [.int (fb (whP (ccl u N a9) a9 (stl (ccl u N a9) N)))]) C J I hS (kX4_isWhole0 (gd_Lg J.1.1) (ccl u N a9) a9 ha9 (pgI ha9) N h60 (lz_N hL1).2) (cwV 1 hts gL_law_X4_isWhole rfl rfl rfl hdX4_isWhole ⟨Nat.le_of_ble_eq_true rfl, Nat.le_of_ble_eq_true rfl⟩) rfl rfl rfl hl.1 rfl (Nat.le_of_ble_eq_true rfl) dL_law_807 ⟨Nat.le_trans (Nat.le_add_right _ _) hcr, Nat.le_trans (Nat.le_add_right _ _) hsr⟩ (fun H locs I hS => ?_)
      refine lv_icmp_ne (tgt := 826) hx hb dL_law_810 (by decide) (fun c2 => ?_) (fun c2 => ?_)
      · skip
        exact absurd rfl c2
      · skip
        refine lv_aload_n hx hb dL_law_813 rfl (lv_at hl 12 rfl) ?_
        refine lv_iload hx hb dL_law_814 (lv_at hl 2 rfl) ?_
        refine lcI (As := [.int (nI a9)]) (rest := []) C J I hS (hMc2 (gd_Lg J.1.1)) (cwV 1 hts gL_law_X4_clean rfl rfl rfl hdX4_clean ⟨Nat.le_of_ble_eq_true rfl, Nat.le_of_ble_eq_true rfl⟩) rfl rfl rfl hl.1 rfl (Nat.le_of_ble_eq_true rfl) dL_law_816 ⟨Nat.le_trans (Nat.le_add_right _ _) hcr, Nat.le_trans (Nat.le_add_right _ _) hsr⟩ (fun H locs I hS => ?_)
        refine tpi (y := 0) (by rw [hc0]; rfl) ?_
        refine lv_if_ne (tgt := 826) hx hb dL_law_819 (by decide) (fun c3 => ?_) (fun c3 => ?_)
        · skip
          exact absurd c1 c3
        · skip
          refine lv_iconst (v := 1) hx hb dL_law_822 (by decide) ?_
          refine lv_goto (tgt := 827) hx hb dL_law_823 (by decide) ?_
          refine lv_istore (lv' := [(4, .int 1), (15, .int (nI (cln u (stl u N) a9 8).2)), (14, .float (fdv (ful u a9 8))), (13, .int (nI a9)), (12, .int (nI ky)), (11, .int (nI aa)), (9, .int (nI yy)), (7, .int (nI n)), (6, .int (nI tt)), (5, .int (nI N)), (3, .ref o2), (2, .ref o1), (1, .ref (g 0)), (0, .ref b)]) hx hb dL_law_827 hl (by decide) rfl (fun ls hl => ?_)
          refine lv_goto (tgt := 983) hx hb dL_law_829 (by decide) ?_
          refine W.widen (k := cells + 12) (n := slots + 60) (Nat.le_add_right _ _) (Nat.le_add_right _ _) ?_
          exact kk _ _ _ _ H locs ls (lz_up hL2) I hS (lv_sub hl [5, 6, 7, 8, 9, 0, 10, 11, 12, 13] rfl)
  refine lv_iload hx hb dL_law_744 (lv_at hl 2 rfl) ?_
  refine lv_iconst (v := 3) hx hb dL_law_746 (by decide) ?_
  refine lv_iand hx hb dL_law_747 ?_
  refine lv_if_ne (tgt := 760) hx hb dL_law_748 (by decide) (fun c4 => ?_) (fun c4 => ?_)
  · skip
    refine lv_iconst (v := 0) hx hb dL_law_760 (by decide) ?_
    exact j761 0 (by decide)
  · skip
    refine lv_iload hx hb dL_law_751 (lv_at hl 2 rfl) ?_
    refine lv_iconst (v := 2) hx hb dL_law_753 (by decide) ?_
    refine lv_ishr hx hb dL_law_754 ?_
    refine tpi (y := nI (yy / 4)) (shr2 (by omega)) ?_
    refine lv_iconst (v := 4) hx hb dL_law_755 (by decide) ?_
    refine lv_irem hx hb dL_law_756 (by decide) ?_
    refine tpi (y := nI (yy / 4 % 4)) (pk_rem (d := 4) (by omega) (by omega) (by omega)) ?_
    refine lv_goto (tgt := 761) hx hb dL_law_757 (by decide) ?_
    exact j761 (yy / 4 % 4) (by omega)

set_option maxHeartbeats 4000000 in
set_option maxRecDepth 100000 in
theorem sg_jump {p : Program} {l : Launch} {e : Env} {s : State} {m : MethodId} {below : List Frame} {meth : Method} {c : Code} {Q : State → Prop} {b L : Nat} {xs : Nat → Int32} {D : va_G} {K : Nat → ClassId} {g : Nat → Nat} {o1 o2 : Nat} {u : CU} {fw hw : AI} {n N tt : Nat} {H : Heap} {locs : List Loc} {ls : Array Slot} {cells slots : Nat} {yy aa ky : Nat} (C : LC p l s m meth c b L xs D K) (J : LD s g o1 o2) (I : LI D K g o1 o2 u fw hw H) (hS : va_S (A0 s) s.heap H locs) (hcr : cells + 12 ≤ room_1.cells) (hsr : slots + 60 ≤ room_1.slots) (hl : lv_has ls 17 [(12, .int (nI ky)), (11, .int (nI aa)), (9, .int (nI yy)), (7, .int (nI n)), (6, .int (nI tt)), (5, .int (nI N)), (4, .int 1), (3, .ref o2), (2, .ref o1), (1, .ref (g 0)), (0, .ref b)]) (hL : LZ n u N fw hw) (hn : n < 340) (haa : aa < 6) (hyy : yy < 268435456) (hky : ky < 6) (kk : ∀ (u2 : CU) (N2 : Nat) (f2 h2 : AI) (H1 : Heap) (locs1 : List Loc) (ls1 : Array Slot), LZ (n + 1) u2 N2 f2 h2 → LI D K g o1 o2 u2 f2 h2 H1 → va_S (A0 s) s.heap H1 locs1 → lv_has ls1 17 [(11, .int (nI aa)), (9, .int (nI yy)), (7, .int (nI n)), (6, .int (nI tt)), (5, .int (nI N2)), (4, .int 1), (3, .ref o2), (2, .ref o1), (1, .ref (g 0)), (0, .ref b)] → W p l e room_1 s m #[.ref b] below meth c H1 locs1 (cells + 12) (slots + 60) Q (F0 m 983 ls1 [])) : W p l e room_1 s m #[.ref b] below meth c H locs cells slots Q (F0 m 839 ls []) := by
  obtain ⟨hx, hb, hml, hown, hts⟩ := C.1
  have hfl := C.2.2.2
  obtain ⟨h60, hcn⟩ := lz_N hL
  obtain ⟨oa, oa64, hoa⟩ := lz_oldest hL
  refine lv_iconst (v := 1) hx hb dL_law_839 (by decide) ?_
  refine lv_iload hx hb dL_law_840 (lv_at hl 2 rfl) ?_
  refine lv_iconst (v := 2) hx hb dL_law_842 (by decide) ?_
  refine lv_ishr hx hb dL_law_843 ?_
  refine tpi (y := nI (yy / 4)) (shr2 (by omega)) ?_
  refine lv_bipush (v := 20) hx hb dL_law_844 (by decide) ?_
  refine lv_irem hx hb dL_law_846 (by decide) ?_
  refine tpi (y := nI (yy / 4 % 20)) (pk_rem (d := 20) (by omega) (by omega) (by omega)) ?_
  refine lv_iadd hx hb dL_law_847 ?_
  refine tpi (y := nI (1 + yy / 4 % 20)) (nI_add 1 (yy / 4 % 20)) ?_
  refine lv_istore (lv' := [(13, .int (nI (1 + yy / 4 % 20))), (12, .int (nI ky)), (11, .int (nI aa)), (9, .int (nI yy)), (7, .int (nI n)), (6, .int (nI tt)), (5, .int (nI N)), (4, .int 1), (3, .ref o2), (2, .ref o1), (1, .ref (g 0)), (0, .ref b)]) hx hb dL_law_848 hl (by decide) rfl (fun ls hl => ?_)
  refine lv_aload_n hx hb dL_law_850 rfl (lv_at hl 10 rfl) ?_
  refine lcI (As := []) (rest := []) C J I hS (kX4_oldest (gd_Lg J.1.1) u N h60 hcn) (cwV 0 hts gL_law_X4_oldest rfl rfl rfl hdX4_oldest ⟨Nat.le_of_ble_eq_true rfl, Nat.le_of_ble_eq_true rfl⟩) rfl rfl rfl hl.1 rfl (Nat.le_of_ble_eq_true rfl) dL_law_851 ⟨Nat.le_trans (Nat.le_add_right _ _) hcr, Nat.le_trans (Nat.le_add_right _ _) hsr⟩ (fun H locs I hS => ?_)
  refine tpi (y := nI oa) hoa ?_
  refine lv_istore (lv' := [(14, .int (nI oa)), (13, .int (nI (1 + yy / 4 % 20))), (12, .int (nI ky)), (11, .int (nI aa)), (9, .int (nI yy)), (7, .int (nI n)), (6, .int (nI tt)), (5, .int (nI N)), (4, .int 1), (3, .ref o2), (2, .ref o1), (1, .ref (g 0)), (0, .ref b)]) hx hb dL_law_854 hl (by decide) rfl (fun ls hl => ?_)
  by_cases hc9 : oa = 0 ∨ oa + (1 + yy / 4 % 20) < 32
  · skip
    obtain ⟨m9, hm9, em9⟩ := lz_skn hL (s := 1 + yy / 4 % 20) (by omega)
    obtain ⟨hL9, ho9⟩ := lz_jump hL (s := 1 + yy / 4 % 20) (by omega) oa64 hoa hc9
    refine lv_aload_n hx hb dL_law_856 rfl (lv_at hl 11 rfl) ?_
    refine lv_iload hx hb dL_law_857 (lv_at hl 1 rfl) ?_
    refine lwI (As := [.ref (g 0), .int (nI (1 + yy / 4 % 20))]) (rest := []) C J I hS (lz_jumpsY hL (by omega) (by omega) oa64 hoa hc9 (gd_Lg J.1.1) hfl) (vx_cwSW 2 hts gL_law_L_jumps rfl rfl rfl hdL_jumps.2 ⟨Nat.le_of_ble_eq_true rfl, Nat.le_of_ble_eq_true rfl⟩) rfl hl.1 rfl (Nat.le_of_ble_eq_true rfl) dL_law_859 ⟨Nat.le_trans (Nat.add_le_add_left (Nat.le_of_ble_eq_true rfl) cells) hcr, Nat.le_trans (Nat.add_le_add_left (Nat.le_of_ble_eq_true rfl) slots) hsr⟩ (fun H locs I hS => ?_)
    have hcr2 : cells + rmL_jumps.cells ≤ room_1.cells := Nat.le_trans (Nat.add_le_add_left (Nat.le_of_ble_eq_true rfl) cells) hcr
    have hsr2 : slots + rmL_jumps.slots ≤ room_1.slots := Nat.le_trans (Nat.add_le_add_left (Nat.le_of_ble_eq_true rfl) slots) hsr
    refine tpi (y := nI m9) em9 ?_
    refine lv_istore (lv' := [(15, .int (nI m9)), (14, .int (nI oa)), (13, .int (nI (1 + yy / 4 % 20))), (12, .int (nI ky)), (11, .int (nI aa)), (9, .int (nI yy)), (7, .int (nI n)), (6, .int (nI tt)), (5, .int (nI N)), (4, .int 1), (3, .ref o2), (2, .ref o1), (1, .ref (g 0)), (0, .ref b)]) hx hb dL_law_862 hl (by decide) rfl (fun ls hl => ?_)
    refine lv_iload hx hb dL_law_864 (lv_at hl 0 rfl) ?_
    refine lv_bipush (v := (-3)) hx hb dL_law_866 (by decide) ?_
    refine lv_icmp_ne (tgt := 903) hx hb dL_law_868 (by decide) (fun c1 => ?_) (fun c1 => ?_)
    · skip
      refine lv_iload hx hb dL_law_903 (lv_at hl 1 rfl) ?_
      refine lv_if_ne (tgt := 923) hx hb dL_law_905 (by decide) (fun c2 => ?_) (fun c2 => ?_)
      · skip
        have e0 : ¬ oa = 0 := fun z => c2 (by rw [z]; rfl)
        refine lv_aload_n hx hb dL_law_923 rfl (lv_at hl 12 rfl) ?_
        refine lcI (As := []) (rest := []) C J I hS (kX4_oldest (gd_Lg J.1.1) (s_ns u (skn u (nI (1 + yy / 4 % 20)))) N h60 (lz_N hL9).2) (cwV 0 hts gL_law_X4_oldest rfl rfl rfl hdX4_oldest ⟨Nat.le_of_ble_eq_true rfl, Nat.le_of_ble_eq_true rfl⟩) rfl rfl rfl hl.1 rfl (Nat.le_of_ble_eq_true rfl) dL_law_924 ⟨hcr2, hsr2⟩ (fun H locs I hS => ?_)
        refine tpi (y := nI (oa + (1 + yy / 4 % 20))) (by rw [ho9, if_neg e0]) ?_
        refine lv_iload hx hb dL_law_927 (lv_at hl 1 rfl) ?_
        refine lv_iload hx hb dL_law_929 (lv_at hl 2 rfl) ?_
        refine lv_iadd hx hb dL_law_931 ?_
        refine tpi (y := nI (oa + (1 + yy / 4 % 20))) (nI_add oa (1 + yy / 4 % 20)) ?_
        refine lv_icmp_ne (tgt := 939) hx hb dL_law_932 (by decide) (fun c3 => ?_) (fun c3 => ?_)
        · skip
          exact absurd rfl c3
        · skip
          refine lv_iconst (v := 1) hx hb dL_law_935 (by decide) ?_
          refine lv_goto (tgt := 940) hx hb dL_law_936 (by decide) ?_
          refine lv_istore (lv' := [(4, .int 1), (15, .int (nI m9)), (14, .int (nI oa)), (13, .int (nI (1 + yy / 4 % 20))), (12, .int (nI ky)), (11, .int (nI aa)), (9, .int (nI yy)), (7, .int (nI n)), (6, .int (nI tt)), (5, .int (nI N)), (3, .ref o2), (2, .ref o1), (1, .ref (g 0)), (0, .ref b)]) hx hb dL_law_940 hl (by decide) rfl (fun ls hl => ?_)
          refine lv_goto (tgt := 983) hx hb dL_law_942 (by decide) ?_
          refine W.widen (k := cells + 12) (n := slots + 60) (Nat.add_le_add_left (Nat.le_of_ble_eq_true rfl) cells) (Nat.add_le_add_left (Nat.le_of_ble_eq_true rfl) slots) ?_
          exact kk _ _ _ _ H locs ls hL9 I hS (lv_sub hl [5, 6, 7, 8, 9, 0, 10, 11, 12, 13] rfl)
      · skip
        have e0 : oa = 0 := (nI_eq (b := 0) (by omega) (by omega)).mp c2
        refine lv_aload_n hx hb dL_law_908 rfl (lv_at hl 12 rfl) ?_
        refine lcI (As := []) (rest := []) C J I hS (kX4_oldest (gd_Lg J.1.1) (s_ns u (skn u (nI (1 + yy / 4 % 20)))) N h60 (lz_N hL9).2) (cwV 0 hts gL_law_X4_oldest rfl rfl rfl hdX4_oldest ⟨Nat.le_of_ble_eq_true rfl, Nat.le_of_ble_eq_true rfl⟩) rfl rfl rfl hl.1 rfl (Nat.le_of_ble_eq_true rfl) dL_law_909 ⟨hcr2, hsr2⟩ (fun H locs I hS => ?_)
        refine tpi (y := 0) (by rw [ho9, if_pos e0]; rfl) ?_
        refine lv_if_ne (tgt := 919) hx hb dL_law_912 (by decide) (fun c4 => ?_) (fun c4 => ?_)
        · skip
          exact (by first | exact absurd c4 (by decide) | exact absurd (by decide) c4)
        · skip
          refine lv_iconst (v := 1) hx hb dL_law_915 (by decide) ?_
          refine lv_goto (tgt := 940) hx hb dL_law_916 (by decide) ?_
          refine lv_istore (lv' := [(4, .int 1), (15, .int (nI m9)), (14, .int (nI oa)), (13, .int (nI (1 + yy / 4 % 20))), (12, .int (nI ky)), (11, .int (nI aa)), (9, .int (nI yy)), (7, .int (nI n)), (6, .int (nI tt)), (5, .int (nI N)), (3, .ref o2), (2, .ref o1), (1, .ref (g 0)), (0, .ref b)]) hx hb dL_law_940 hl (by decide) rfl (fun ls hl => ?_)
          refine lv_goto (tgt := 983) hx hb dL_law_942 (by decide) ?_
          refine W.widen (k := cells + 12) (n := slots + 60) (Nat.add_le_add_left (Nat.le_of_ble_eq_true rfl) cells) (Nat.add_le_add_left (Nat.le_of_ble_eq_true rfl) slots) ?_
          exact kk _ _ _ _ H locs ls hL9 I hS (lv_sub hl [5, 6, 7, 8, 9, 0, 10, 11, 12, 13] rfl)
    · skip
      exact absurd c1 (m3 (by omega))
  · skip
    refine lv_aload_n hx hb dL_law_856 rfl (lv_at hl 11 rfl) ?_
    refine lv_iload hx hb dL_law_857 (lv_at hl 1 rfl) ?_
    refine lwI (As := [.ref (g 0), .int (nI (1 + yy / 4 % 20))]) (rest := []) C J I hS (lz_jumpsN hL (by omega) (by omega) oa64 hoa hc9 (gd_Lg J.1.1) hfl) (vx_cwSW 2 hts gL_law_L_jumps rfl rfl rfl hdL_jumps.2 ⟨Nat.le_of_ble_eq_true rfl, Nat.le_of_ble_eq_true rfl⟩) rfl hl.1 rfl (Nat.le_of_ble_eq_true rfl) dL_law_859 ⟨Nat.le_trans (Nat.add_le_add_left (Nat.le_of_ble_eq_true rfl) cells) hcr, Nat.le_trans (Nat.add_le_add_left (Nat.le_of_ble_eq_true rfl) slots) hsr⟩ (fun H locs I hS => ?_)
    have hcr2 : cells + rmL_jumps.cells ≤ room_1.cells := Nat.le_trans (Nat.add_le_add_left (Nat.le_of_ble_eq_true rfl) cells) hcr
    have hsr2 : slots + rmL_jumps.slots ≤ room_1.slots := Nat.le_trans (Nat.add_le_add_left (Nat.le_of_ble_eq_true rfl) slots) hsr
    refine lv_istore (lv' := [(15, .int (-3)), (14, .int (nI oa)), (13, .int (nI (1 + yy / 4 % 20))), (12, .int (nI ky)), (11, .int (nI aa)), (9, .int (nI yy)), (7, .int (nI n)), (6, .int (nI tt)), (5, .int (nI N)), (4, .int 1), (3, .ref o2), (2, .ref o1), (1, .ref (g 0)), (0, .ref b)]) hx hb dL_law_862 hl (by decide) rfl (fun ls hl => ?_)
    refine lv_iload hx hb dL_law_864 (lv_at hl 0 rfl) ?_
    refine lv_bipush (v := (-3)) hx hb dL_law_866 (by decide) ?_
    refine lv_icmp_ne (tgt := 903) hx hb dL_law_868 (by decide) (fun c5 => ?_) (fun c5 => ?_)
    · skip
      exact (by first | exact absurd c5 (by decide) | exact absurd rfl c5)
    · skip
      refine lv_iload hx hb dL_law_871 (lv_at hl 1 rfl) ?_
      refine lv_if_le (tgt := 899) hx hb dL_law_873 (by decide) (fun c6 => ?_) (fun c6 => ?_)
      · skip
        exact absurd ((nI_leI (a := oa) (b := 0) (by omega) (by omega)).mp c6) (by omega)
      · skip
        refine lv_iload hx hb dL_law_876 (lv_at hl 1 rfl) ?_
        refine lv_iload hx hb dL_law_878 (lv_at hl 2 rfl) ?_
        refine lv_iadd hx hb dL_law_880 ?_
        refine tpi (y := nI (oa + (1 + yy / 4 % 20))) (nI_add oa (1 + yy / 4 % 20)) ?_
        refine lv_bipush (v := 32) hx hb dL_law_881 (by decide) ?_
        refine lv_icmp_lt (tgt := 899) hx hb dL_law_883 (by decide) (fun c7 => ?_) (fun c7 => ?_)
        · skip
          exact absurd (nltI (a := oa + (1 + yy / 4 % 20)) (b := 32) (by omega) (by omega) c7) (by omega)
        · skip
          refine lv_aload_n hx hb dL_law_886 rfl (lv_at hl 12 rfl) ?_
          refine lcI (As := []) (rest := []) C J I hS (kX4_oldest (gd_Lg J.1.1) u N h60 hcn) (cwV 0 hts gL_law_X4_oldest rfl rfl rfl hdX4_oldest ⟨Nat.le_of_ble_eq_true rfl, Nat.le_of_ble_eq_true rfl⟩) rfl rfl rfl hl.1 rfl (Nat.le_of_ble_eq_true rfl) dL_law_887 ⟨hcr2, hsr2⟩ (fun H locs I hS => ?_)
          refine tpi (y := nI oa) hoa ?_
          refine lv_iload hx hb dL_law_890 (lv_at hl 1 rfl) ?_
          refine lv_icmp_ne (tgt := 899) hx hb dL_law_892 (by decide) (fun c8 => ?_) (fun c8 => ?_)
          · skip
            exact absurd rfl c8
          · skip
            refine lv_iconst (v := 1) hx hb dL_law_895 (by decide) ?_
            refine lv_goto (tgt := 940) hx hb dL_law_896 (by decide) ?_
            refine lv_istore (lv' := [(4, .int 1), (15, .int (-3)), (14, .int (nI oa)), (13, .int (nI (1 + yy / 4 % 20))), (12, .int (nI ky)), (11, .int (nI aa)), (9, .int (nI yy)), (7, .int (nI n)), (6, .int (nI tt)), (5, .int (nI N)), (3, .ref o2), (2, .ref o1), (1, .ref (g 0)), (0, .ref b)]) hx hb dL_law_940 hl (by decide) rfl (fun ls hl => ?_)
            refine lv_goto (tgt := 983) hx hb dL_law_942 (by decide) ?_
            refine W.widen (k := cells + 12) (n := slots + 60) (Nat.add_le_add_left (Nat.le_of_ble_eq_true rfl) cells) (Nat.add_le_add_left (Nat.le_of_ble_eq_true rfl) slots) ?_
            exact kk _ _ _ _ H locs ls (lz_up hL) I hS (lv_sub hl [5, 6, 7, 8, 9, 0, 10, 11, 12, 13] rfl)

set_option maxHeartbeats 4000000 in
set_option maxRecDepth 100000 in
theorem sg_fz {p : Program} {l : Launch} {e : Env} {s : State} {m : MethodId} {below : List Frame} {meth : Method} {c : Code} {Q : State → Prop} {b L : Nat} {xs : Nat → Int32} {D : va_G} {K : Nat → ClassId} {g : Nat → Nat} {o1 o2 : Nat} {u : CU} {fw hw : AI} {n N tt : Nat} {H : Heap} {locs : List Loc} {ls : Array Slot} {cells slots : Nat} {yy aa ky : Nat} (C : LC p l s m meth c b L xs D K) (J : LD s g o1 o2) (I : LI D K g o1 o2 u fw hw H) (hS : va_S (A0 s) s.heap H locs) (hcr : cells + 12 ≤ room_1.cells) (hsr : slots + 60 ≤ room_1.slots) (hl : lv_has ls 17 [(12, .int (nI ky)), (11, .int (nI aa)), (9, .int (nI yy)), (7, .int (nI n)), (6, .int (nI tt)), (5, .int (nI N)), (4, .int 1), (3, .ref o2), (2, .ref o1), (1, .ref (g 0)), (0, .ref b)]) (hL : LZ n u N fw hw) (hn : n < 340) (haa : aa < 6) (hyy : yy < 268435456) (hky : ky < 6) (kk : ∀ (u2 : CU) (N2 : Nat) (f2 h2 : AI) (H1 : Heap) (locs1 : List Loc) (ls1 : Array Slot), LZ (n + 1) u2 N2 f2 h2 → LI D K g o1 o2 u2 f2 h2 H1 → va_S (A0 s) s.heap H1 locs1 → lv_has ls1 17 [(11, .int (nI aa)), (9, .int (nI yy)), (7, .int (nI n)), (6, .int (nI tt)), (5, .int (nI N2)), (4, .int 1), (3, .ref o2), (2, .ref o1), (1, .ref (g 0)), (0, .ref b)] → W p l e room_1 s m #[.ref b] below meth c H1 locs1 (cells + 12) (slots + 60) Q (F0 m 983 ls1 [])) : W p l e room_1 s m #[.ref b] below meth c H locs cells slots Q (F0 m 945 ls []) := by
  obtain ⟨hx, hb, hml, hown, hts⟩ := C.1
  have hfl := C.2.2.2
  obtain ⟨hL1, z9, hz1, hz2, ez9⟩ := lz_fz hL (a := 1 + yy / 4 % 27) (by omega) (by omega)
  obtain ⟨hL2, -⟩ := lz_fz hL1 (a := 1 + yy / 4 % 27) (by omega) (by omega)
  refine lv_iconst (v := 1) hx hb dL_law_945 (by decide) ?_
  refine lv_iload hx hb dL_law_946 (lv_at hl 2 rfl) ?_
  refine lv_iconst (v := 2) hx hb dL_law_948 (by decide) ?_
  refine lv_ishr hx hb dL_law_949 ?_
  refine tpi (y := nI (yy / 4)) (shr2 (by omega)) ?_
  refine lv_bipush (v := 27) hx hb dL_law_950 (by decide) ?_
  refine lv_irem hx hb dL_law_952 (by decide) ?_
  refine tpi (y := nI (yy / 4 % 27)) (pk_rem (d := 27) (by omega) (by omega) (by omega)) ?_
  refine lv_iadd hx hb dL_law_953 ?_
  refine tpi (y := nI (1 + yy / 4 % 27)) (nI_add 1 (yy / 4 % 27)) ?_
  refine lv_istore (lv' := [(13, .int (nI (1 + yy / 4 % 27))), (12, .int (nI ky)), (11, .int (nI aa)), (9, .int (nI yy)), (7, .int (nI n)), (6, .int (nI tt)), (5, .int (nI N)), (4, .int 1), (3, .ref o2), (2, .ref o1), (1, .ref (g 0)), (0, .ref b)]) hx hb dL_law_954 hl (by decide) rfl (fun ls hl => ?_)
  refine lv_aload_n hx hb dL_law_956 rfl (lv_at hl 10 rfl) ?_
  refine lv_iload hx hb dL_law_957 (lv_at hl 0 rfl) ?_
  refine lcI (As := [.int (nI (1 + yy / 4 % 27))]) (rest := []) C J I hS (kX4_setFreezing0 (gd_Lg J.1.1) u (nI (1 + yy / 4 % 27)) (fzI (by omega) (by omega))) (cwV 1 hts gL_law_X4_setFreezing rfl rfl rfl hdX4_setFreezing ⟨Nat.le_of_ble_eq_true rfl, Nat.le_of_ble_eq_true rfl⟩) rfl rfl rfl hl.1 rfl (Nat.le_of_ble_eq_true rfl) dL_law_959 ⟨Nat.le_trans (Nat.le_add_right _ _) hcr, Nat.le_trans (Nat.le_add_right _ _) hsr⟩ (fun H locs I hS => ?_)
  refine tpi (y := nI z9) ez9 ?_
  refine lv_if_le (tgt := 980) hx hb dL_law_962 (by decide) (fun c1 => ?_) (fun c1 => ?_)
  · skip
    exact absurd ((nI_leI (a := z9) (b := 0) (by omega) (by omega)).mp c1) (by omega)
  · skip
    refine lv_aload_n hx hb dL_law_965 rfl (lv_at hl 10 rfl) ?_
    refine lv_iload hx hb dL_law_966 (lv_at hl 0 rfl) ?_
    refine lcI (As := [.int (nI (1 + yy / 4 % 27))]) (rest := []) C J I hS (kX4_setFreezing0 (gd_Lg J.1.1) (s_fz u (nI (1 + yy / 4 % 27))) (nI (1 + yy / 4 % 27)) (fzI (by omega) (by omega))) (cwV 1 hts gL_law_X4_setFreezing rfl rfl rfl hdX4_setFreezing ⟨Nat.le_of_ble_eq_true rfl, Nat.le_of_ble_eq_true rfl⟩) rfl rfl rfl hl.1 rfl (Nat.le_of_ble_eq_true rfl) dL_law_968 ⟨Nat.le_trans (Nat.le_add_right _ _) hcr, Nat.le_trans (Nat.le_add_right _ _) hsr⟩ (fun H locs I hS => ?_)
    refine tpi (y := nI (1 + yy / 4 % 27)) rfl ?_
    refine lv_iload hx hb dL_law_971 (lv_at hl 0 rfl) ?_
    refine lv_icmp_ne (tgt := 980) hx hb dL_law_973 (by decide) (fun c2 => ?_) (fun c2 => ?_)
    · skip
      exact absurd rfl c2
    · skip
      refine lv_iconst (v := 1) hx hb dL_law_976 (by decide) ?_
      refine lv_goto (tgt := 981) hx hb dL_law_977 (by decide) ?_
      refine lv_istore (lv' := [(4, .int 1), (13, .int (nI (1 + yy / 4 % 27))), (12, .int (nI ky)), (11, .int (nI aa)), (9, .int (nI yy)), (7, .int (nI n)), (6, .int (nI tt)), (5, .int (nI N)), (3, .ref o2), (2, .ref o1), (1, .ref (g 0)), (0, .ref b)]) hx hb dL_law_981 hl (by decide) rfl (fun ls hl => ?_)
      refine W.widen (k := cells + 12) (n := slots + 60) (Nat.le_add_right _ _) (Nat.le_add_right _ _) ?_
      exact kk _ _ _ _ H locs ls (lz_up hL2) I hS (lv_sub hl [3, 4, 5, 6, 7, 0, 8, 9, 10, 11] rfl)

set_option maxHeartbeats 4000000 in
set_option maxRecDepth 100000 in
theorem sg_check {p : Program} {l : Launch} {e : Env} {s : State} {m : MethodId} {below : List Frame} {meth : Method} {c : Code} {Q : State → Prop} {b L : Nat} {xs : Nat → Int32} {D : va_G} {K : Nat → ClassId} {g : Nat → Nat} {o1 o2 : Nat} {u : CU} {fw hw : AI} {n N tt : Nat} {H : Heap} {locs : List Loc} {ls : Array Slot} {cells slots : Nat} {yy aa k9 : Nat} (C : LC p l s m meth c b L xs D K) (J : LD s g o1 o2) (I : LI D K g o1 o2 u fw hw H) (hS : va_S (A0 s) s.heap H locs) (hcr : cells + 12 ≤ room_1.cells) (hsr : slots + 60 ≤ room_1.slots) (hl : lv_has ls 17 [(11, .int (nI aa)), (9, .int (nI yy)), (7, .int (nI n)), (6, .int (nI tt)), (5, .int (nI N)), (4, .int 1), (3, .ref o2), (2, .ref o1), (1, .ref (g 0)), (0, .ref b)]) (hL : LZ k9 u N fw hw) (hk9 : k9 ≤ 512) (haa : aa < 6) (hyy : yy < 268435456) (kk : ∀ (H1 : Heap) (locs1 : List Loc) (ls1 : Array Slot), LI D K g o1 o2 u fw hw H1 → va_S (A0 s) s.heap H1 locs1 → lv_has ls1 17 [(7, .int (nI (n + 1))), (6, .int (nI tt)), (5, .int (nI N)), (4, .int 1), (3, .ref o2), (2, .ref o1), (1, .ref (g 0)), (0, .ref b)] → W p l e room_1 s m #[.ref b] below meth c H1 locs1 cells slots Q (F0 m 83 ls1 [])) : W p l e room_1 s m #[.ref b] below meth c H locs cells slots Q (F0 m 983 ls []) := by
  obtain ⟨hx, hb, hml, hown, hts⟩ := C.1
  have hfl := C.2.2.2
  refine lv_iconst (v := 0) hx hb dL_law_983 (by decide) ?_
  refine lv_istore (lv' := [(13, .int 0), (11, .int (nI aa)), (9, .int (nI yy)), (7, .int (nI n)), (6, .int (nI tt)), (5, .int (nI N)), (4, .int 1), (3, .ref o2), (2, .ref o1), (1, .ref (g 0)), (0, .ref b)]) hx hb dL_law_984 hl (by decide) rfl (fun ls hl => ?_)
  have loop986 : ∀ (n986 : Nat) (k6 : Nat), (k6 ≤ 6) → 6 - k6 < n986 → ∀ (H : Heap) (locs : List Loc), LI D K g o1 o2 u fw hw H → va_S (A0 s) s.heap H locs → ∀ (ls : Array Slot), lv_has ls 17 [(13, .int (nI k6)), (11, .int (nI aa)), (9, .int (nI yy)), (7, .int (nI n)), (6, .int (nI tt)), (5, .int (nI N)), (4, .int 1), (3, .ref o2), (2, .ref o1), (1, .ref (g 0)), (0, .ref b)] → W p l e room_1 s m #[.ref b] below meth c H locs cells slots Q (F0 m 986 ls []) := by
    intro n986
    induction n986 with
    | zero =>
      intro k6 hk6 hn986
      exact absurd hn986 (Nat.not_lt_zero _)
    | succ n986 ih986 =>
      intro k6 hk6 hn986 H locs I hS ls hl
      refine lv_iload hx hb dL_law_986 (lv_at hl 0 rfl) ?_
      refine lv_bipush (v := 6) hx hb dL_law_988 (by decide) ?_
      refine lv_icmp_ge (tgt := 1053) hx hb dL_law_990 (by decide) (fun c1 => ?_) (fun c1 => ?_)
      · skip
        have e6 : k6 = 6 := by have := nge_i (a := k6) (b := 6) (by omega) (by omega) c1; omega
        subst e6
        refine lv_iload hx hb dL_law_1053 (lv_at hl 6 rfl) ?_
        refine lv_if_eq (tgt := 1132) hx hb dL_law_1055 (by decide) (fun c2 => ?_) (fun c2 => ?_)
        · skip
          exact (by first | exact absurd c2 (by decide) | exact absurd (by decide) c2)
        · skip
          refine lv_aload_n hx hb dL_law_1058 rfl (lv_at hl 9 rfl) ?_
          refine lsI (As := [.ref (g 0)]) (rest := []) C J I hS (lz_arePages hL (gd_Lg J.1.1)) (va_cwS 1 hts gL_law_L_arePages rfl rfl rfl hdL_arePages.2 ⟨Nat.le_of_ble_eq_true rfl, Nat.le_of_ble_eq_true rfl⟩) rfl rfl rfl hl.1 rfl (Nat.le_of_ble_eq_true rfl) dL_law_1059 ⟨Nat.le_trans (Nat.le_add_right _ _) hcr, Nat.le_trans (Nat.le_add_right _ _) hsr⟩ (fun H locs I hS => ?_)
          refine lv_if_eq (tgt := 1132) hx hb dL_law_1062 (by decide) (fun c3 => ?_) (fun c3 => ?_)
          · skip
            exact absurd c3 c2
          · skip
            have j1083 : ∀ (H : Heap) (locs : List Loc), LI D K g o1 o2 u fw hw H → va_S (A0 s) s.heap H locs → W p l e room_1 s m #[.ref b] below meth c H locs cells slots Q (F0 m 1083 ls []) := by
              intro H locs I hS
              refine lv_aload_n hx hb dL_law_1083 rfl (lv_at hl 9 rfl) ?_
              refine lv_iload hx hb dL_law_1084 (lv_at hl 2 rfl) ?_
              refine lv_bipush (v := 63) hx hb dL_law_1086 (by decide) ?_
              refine lv_iand hx hb dL_law_1088 ?_
              refine tpi (y := nI (yy % 64)) (and63 (by omega)) ?_
              refine lv_iload hx hb dL_law_1089 (lv_at hl 2 rfl) ?_
              refine lv_iconst (v := 1) hx hb dL_law_1091 (by decide) ?_
              refine lv_iadd hx hb dL_law_1092 ?_
              refine tpi (y := nI (yy + 1)) (nI_1 yy) ?_
              refine lv_iload hx hb dL_law_1093 (lv_at hl 2 rfl) ?_
              refine lv_bipush (v := 6) hx hb dL_law_1095 (by decide) ?_
              refine lv_ishr hx hb dL_law_1097 ?_
              refine tpi (y := nI (yy / 64)) (shr6 (by omega)) ?_
              refine lv_bipush (v := 31) hx hb dL_law_1098 (by decide) ?_
              refine lv_irem hx hb dL_law_1100 (by decide) ?_
              refine tpi (y := nI (yy / 64 % 31)) (pk_rem (d := 31) (by omega) (by omega) (by omega)) ?_
              refine lv_iadd hx hb dL_law_1101 ?_
              refine tpi (y := nI (yy + 1 + yy / 64 % 31)) (nI_add (yy + 1) (yy / 64 % 31)) ?_
              refine lv_bipush (v := 63) hx hb dL_law_1102 (by decide) ?_
              refine lv_iand hx hb dL_law_1104 ?_
              refine tpi (y := nI ((yy + 1 + yy / 64 % 31) % 64)) (and63 (by omega)) ?_
              refine lcI (As := [.int (nI (yy % 64)), .int (nI ((yy + 1 + yy / 64 % 31) % 64))]) (rest := []) C J I hS (kX4_isBefore0 (gd_Lg J.1.1) u (nI (yy % 64)) (nI ((yy + 1 + yy / 64 % 31) % 64)) (stI (by omega)) (stI (by omega))) (cwV 2 hts gL_law_X4_isBefore rfl rfl rfl hdX4_isBefore ⟨Nat.le_of_ble_eq_true rfl, Nat.le_of_ble_eq_true rfl⟩) rfl rfl rfl hl.1 rfl (Nat.le_of_ble_eq_true rfl) dL_law_1105 ⟨Nat.le_trans (Nat.le_add_right _ _) hcr, Nat.le_trans (Nat.le_add_right _ _) hsr⟩ (fun H locs I hS => ?_)
              refine tpi (y := 1) (fb_t (ib_yes (by omega))) ?_
              refine lv_if_eq (tgt := 1132) hx hb dL_law_1108 (by decide) (fun c4 => ?_) (fun c4 => ?_)
              · skip
                exact absurd c4 c2
              · skip
                refine lv_aload_n hx hb dL_law_1111 rfl (lv_at hl 9 rfl) ?_
                refine lv_iload hx hb dL_law_1112 (lv_at hl 2 rfl) ?_
                refine lv_bipush (v := 63) hx hb dL_law_1114 (by decide) ?_
                refine lv_iand hx hb dL_law_1116 ?_
                refine tpi (y := nI (yy % 64)) (and63 (by omega)) ?_
                refine lv_iload hx hb dL_law_1117 (lv_at hl 2 rfl) ?_
                refine lv_bipush (v := 63) hx hb dL_law_1119 (by decide) ?_
                refine lv_iand hx hb dL_law_1121 ?_
                refine tpi (y := nI (yy % 64)) (and63 (by omega)) ?_
                refine lcI (As := [.int (nI (yy % 64)), .int (nI (yy % 64))]) (rest := []) C J I hS (kX4_isBefore0 (gd_Lg J.1.1) u (nI (yy % 64)) (nI (yy % 64)) (stI (by omega)) (stI (by omega))) (cwV 2 hts gL_law_X4_isBefore rfl rfl rfl hdX4_isBefore ⟨Nat.le_of_ble_eq_true rfl, Nat.le_of_ble_eq_true rfl⟩) rfl rfl rfl hl.1 rfl (Nat.le_of_ble_eq_true rfl) dL_law_1122 ⟨Nat.le_trans (Nat.le_add_right _ _) hcr, Nat.le_trans (Nat.le_add_right _ _) hsr⟩ (fun H locs I hS => ?_)
                refine tpi (y := 0) (fb_f ib_no) ?_
                refine lv_if_ne (tgt := 1132) hx hb dL_law_1125 (by decide) (fun c5 => ?_) (fun c5 => ?_)
                · skip
                  exact (by first | exact absurd c5 (by decide) | exact absurd (by decide) c5)
                · skip
                  refine lv_iconst (v := 1) hx hb dL_law_1128 (by decide) ?_
                  refine lv_goto (tgt := 1133) hx hb dL_law_1129 (by decide) ?_
                  refine lv_istore (lv' := [(4, .int 1), (13, .int (nI 6)), (11, .int (nI aa)), (9, .int (nI yy)), (7, .int (nI n)), (6, .int (nI tt)), (5, .int (nI N)), (3, .ref o2), (2, .ref o1), (1, .ref (g 0)), (0, .ref b)]) hx hb dL_law_1133 hl (by decide) rfl (fun ls hl => ?_)
                  refine lv_iinc (v := nI (n + 1)) (lv' := [(7, .int (nI (n + 1))), (4, .int 1), (13, .int (nI 6)), (11, .int (nI aa)), (9, .int (nI yy)), (6, .int (nI tt)), (5, .int (nI N)), (3, .ref o2), (2, .ref o1), (1, .ref (g 0)), (0, .ref b)]) hx hb dL_law_1135 hl (k := 4) rfl (nI_1 n) (by decide) rfl (fun ls hl => ?_)
                  refine lv_goto (tgt := 83) hx hb dL_law_1138 (by decide) ?_
                  exact kk H locs ls I hS (lv_sub hl [0, 5, 6, 1, 7, 8, 9, 10] rfl)
            refine lv_aload_n hx hb dL_law_1065 rfl (lv_at hl 8 rfl) ?_
            refine lv_iload hx hb dL_law_1066 (lv_at hl 1 rfl) ?_
            refine wld C I (j := aa) (by omega) rfl dL_law_1068 ?_
            refine lv_if_lt (tgt := 1083) hx hb dL_law_1069 (by decide) (fun c6 => ?_) (fun c6 => ?_)
            · skip
              exact j1083 H locs I hS
            · skip
              refine lv_aload_n hx hb dL_law_1072 rfl (lv_at hl 9 rfl) ?_
              refine lv_aload_n hx hb dL_law_1073 rfl (lv_at hl 8 rfl) ?_
              refine lv_iload hx hb dL_law_1074 (lv_at hl 1 rfl) ?_
              refine wld C I (j := aa) (by omega) rfl dL_law_1076 ?_
              refine lsI (As := [.ref (g 0), .int (fw aa)]) (rest := []) C J I hS (lz_isRead hL hk9 haa c6 (gd_Lg J.1.1)) (va_cwS 2 hts gL_law_L_isRead rfl rfl rfl hdL_isRead.2 ⟨Nat.le_of_ble_eq_true rfl, Nat.le_of_ble_eq_true rfl⟩) rfl rfl rfl hl.1 rfl (Nat.le_of_ble_eq_true rfl) dL_law_1077 ⟨Nat.le_trans (Nat.le_add_right _ _) hcr, Nat.le_trans (Nat.le_add_right _ _) hsr⟩ (fun H locs I hS => ?_)
              refine lv_if_eq (tgt := 1132) hx hb dL_law_1080 (by decide) (fun c7 => ?_) (fun c7 => ?_)
              · skip
                exact absurd c7 c2
              · skip
                exact j1083 H locs I hS
      · skip
        have hlt : k6 < 6 := nlt_i (a := k6) (b := 6) (by omega) (by omega) c1
        refine lv_iload hx hb dL_law_993 (lv_at hl 6 rfl) ?_
        refine lv_if_eq (tgt := 1053) hx hb dL_law_995 (by decide) (fun c8 => ?_) (fun c8 => ?_)
        · skip
          exact (by first | exact absurd c8 (by decide) | exact absurd (by decide) c8)
        · skip
          refine lv_aload_n hx hb dL_law_998 rfl (lv_at hl 8 rfl) ?_
          refine lv_iload hx hb dL_law_999 (lv_at hl 0 rfl) ?_
          refine wld C I (j := k6) (by omega) rfl dL_law_1001 ?_
          refine lv_istore (lv' := [(14, .int (fw k6)), (13, .int (nI k6)), (11, .int (nI aa)), (9, .int (nI yy)), (7, .int (nI n)), (6, .int (nI tt)), (5, .int (nI N)), (4, .int 1), (3, .ref o2), (2, .ref o1), (1, .ref (g 0)), (0, .ref b)]) hx hb dL_law_1002 hl (by decide) rfl (fun ls hl => ?_)
          refine lv_iload hx hb dL_law_1004 (lv_at hl 3 rfl) ?_
          refine lv_iload hx hb dL_law_1006 (lv_at hl 1 rfl) ?_
          refine lv_iadd hx hb dL_law_1008 ?_
          refine tpi (y := nI (yy + k6)) (nI_add yy k6) ?_
          refine lv_bipush (v := 6) hx hb dL_law_1009 (by decide) ?_
          refine lv_irem hx hb dL_law_1011 (by decide) ?_
          refine tpi (y := nI ((yy + k6) % 6)) (pk_rem (d := 6) (by omega) (by omega) (by omega)) ?_
          refine lv_istore (lv' := [(15, .int (nI ((yy + k6) % 6))), (14, .int (fw k6)), (13, .int (nI k6)), (11, .int (nI aa)), (9, .int (nI yy)), (7, .int (nI n)), (6, .int (nI tt)), (5, .int (nI N)), (4, .int 1), (3, .ref o2), (2, .ref o1), (1, .ref (g 0)), (0, .ref b)]) hx hb dL_law_1012 hl (by decide) rfl (fun ls hl => ?_)
          refine lv_iload hx hb dL_law_1014 (lv_at hl 1 rfl) ?_
          refine lv_if_lt (tgt := 1040) hx hb dL_law_1016 (by decide) (fun c9 => ?_) (fun c9 => ?_)
          · skip
            refine lv_iconst (v := 1) hx hb dL_law_1040 (by decide) ?_
            refine lv_goto (tgt := 1045) hx hb dL_law_1041 (by decide) ?_
            refine lv_istore (lv' := [(4, .int 1), (15, .int (nI ((yy + k6) % 6))), (14, .int (fw k6)), (13, .int (nI k6)), (11, .int (nI aa)), (9, .int (nI yy)), (7, .int (nI n)), (6, .int (nI tt)), (5, .int (nI N)), (3, .ref o2), (2, .ref o1), (1, .ref (g 0)), (0, .ref b)]) hx hb dL_law_1045 hl (by decide) rfl (fun ls hl => ?_)
            refine lv_iinc (v := nI (k6 + 1)) (lv' := [(13, .int (nI (k6 + 1))), (4, .int 1), (15, .int (nI ((yy + k6) % 6))), (14, .int (fw k6)), (11, .int (nI aa)), (9, .int (nI yy)), (7, .int (nI n)), (6, .int (nI tt)), (5, .int (nI N)), (3, .ref o2), (2, .ref o1), (1, .ref (g 0)), (0, .ref b)]) hx hb dL_law_1047 hl (k := 3) rfl (nI_1 k6) (by decide) rfl (fun ls hl => ?_)
            refine lv_goto (tgt := 986) hx hb dL_law_1050 (by decide) ?_
            exact ih986 (k6 + 1) hlt (ms_s hlt hn986) _ _ I hS ls (lv_sub hl [0, 4, 5, 6, 7, 8, 1, 9, 10, 11, 12] rfl)
          · skip
            refine lv_aload_n hx hb dL_law_1019 rfl (lv_at hl 11 rfl) ?_
            refine lv_iload hx hb dL_law_1020 (lv_at hl 1 rfl) ?_
            refine lv_iload hx hb dL_law_1022 (lv_at hl 0 rfl) ?_
            refine lcI (As := [.int (fw k6), .int (nI ((yy + k6) % 6))]) (rest := []) C J I hS (lz_read hL hlt c9 (show (yy + k6) % 6 < 6 from Nat.mod_lt _ (by decide)) (gd_Lg J.1.1)) (cwV 2 hts gL_law_X4_read rfl rfl rfl hdX4_read ⟨Nat.le_of_ble_eq_true rfl, Nat.le_of_ble_eq_true rfl⟩) rfl rfl rfl hl.1 rfl (Nat.le_of_ble_eq_true rfl) dL_law_1024 ⟨Nat.le_trans (Nat.le_add_right _ _) hcr, Nat.le_trans (Nat.le_add_right _ _) hsr⟩ (fun H locs I hS => ?_)
            refine lv_aload_n hx hb dL_law_1027 rfl (lv_at hl 9 rfl) ?_
            refine lv_bipush (v := 6) hx hb dL_law_1028 (by decide) ?_
            refine lv_iload hx hb dL_law_1030 (lv_at hl 2 rfl) ?_
            refine lv_imul hx hb dL_law_1032 ?_
            refine tpi (y := nI (6 * k6)) (pk_mul 6 k6) ?_
            refine lv_iload hx hb dL_law_1033 (lv_at hl 0 rfl) ?_
            refine lv_iadd hx hb dL_law_1035 ?_
            refine tpi (y := nI (6 * k6 + (yy + k6) % 6)) (nI_add (6 * k6) ((yy + k6) % 6)) ?_
            refine hld C I (j := (6 * k6 + (yy + k6) % 6)) (by omega) rfl dL_law_1036 ?_
            refine lv_icmp_ne (tgt := 1044) hx hb dL_law_1037 (by decide) (fun c10 => ?_) (fun c10 => ?_)
            · skip
              exact absurd rfl c10
            · skip
              refine lv_iconst (v := 1) hx hb dL_law_1040 (by decide) ?_
              refine lv_goto (tgt := 1045) hx hb dL_law_1041 (by decide) ?_
              refine lv_istore (lv' := [(4, .int 1), (15, .int (nI ((yy + k6) % 6))), (14, .int (fw k6)), (13, .int (nI k6)), (11, .int (nI aa)), (9, .int (nI yy)), (7, .int (nI n)), (6, .int (nI tt)), (5, .int (nI N)), (3, .ref o2), (2, .ref o1), (1, .ref (g 0)), (0, .ref b)]) hx hb dL_law_1045 hl (by decide) rfl (fun ls hl => ?_)
              refine lv_iinc (v := nI (k6 + 1)) (lv' := [(13, .int (nI (k6 + 1))), (4, .int 1), (15, .int (nI ((yy + k6) % 6))), (14, .int (fw k6)), (11, .int (nI aa)), (9, .int (nI yy)), (7, .int (nI n)), (6, .int (nI tt)), (5, .int (nI N)), (3, .ref o2), (2, .ref o1), (1, .ref (g 0)), (0, .ref b)]) hx hb dL_law_1047 hl (k := 3) rfl (nI_1 k6) (by decide) rfl (fun ls hl => ?_)
              refine lv_goto (tgt := 986) hx hb dL_law_1050 (by decide) ?_
              exact ih986 (k6 + 1) hlt (ms_s hlt hn986) _ _ I hS ls (lv_sub hl [0, 4, 5, 6, 7, 8, 1, 9, 10, 11, 12] rfl)
  exact loop986 _ 0 (by omega) (Nat.lt_succ_self _) _ _ I hS ls (lv_sub hl [0, 1, 2, 3, 4, 5, 6, 7, 8, 9, 10] rfl)

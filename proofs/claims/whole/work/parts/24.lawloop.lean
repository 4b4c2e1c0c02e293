/-! ===== the law: its loop ===== -/
def OP_begin (l : Launch) (D : va_G) (K : Nat → ClassId) (Rel : CU → MU → Prop) (u : CU) (v : MU) : Prop := OPi l D K yX4_begin wsX4_begin rmX4_begin yX5_begin wsX5_begin rmX5_begin [xIS] Rel [] u v
def OP_end (l : Launch) (D : va_G) (K : Nat → ClassId) (Rel : CU → MU → Prop) (u : CU) (v : MU) : Prop := ∀ (x : Int32) (q : Prop), OPi l D K yX4_end wsX4_end rmX4_end yX5_end wsX5_end rmX5_end [xIO, xIS] Rel [.int x, .int (fb q)] u v
def OP_jump (l : Launch) (D : va_G) (K : Nat → ClassId) (Rel : CU → MU → Prop) (u : CU) (v : MU) : Prop := ∀ x : Int32, OPi l D K yX4_jump wsX4_jump rmX4_jump yX5_jump wsX5_jump rmX5_jump [xIA, xIS] Rel [.int x] u v
def OP_stamp (l : Launch) (D : va_G) (K : Nat → ClassId) (Rel : CU → MU → Prop) (u : CU) (v : MU) : Prop := ∀ x : Int32, OPi l D K yX4_stamp wsX4_stamp rmX4_stamp yX5_stamp wsX5_stamp rmX5_stamp [xIO] Rel [.int x] u v
def OP_isBefore (l : Launch) (D : va_G) (K : Nat → ClassId) (Rel : CU → MU → Prop) (u : CU) (v : MU) : Prop := ∀ x y : Int32, OPi l D K yX4_isBefore wsX4_isBefore rmX4_isBefore yX5_isBefore wsX5_isBefore rmX5_isBefore [xIA] Rel [.int x, .int y] u v
def OP_read (l : Launch) (D : va_G) (K : Nat → ClassId) (Rel : CU → MU → Prop) (u : CU) (v : MU) : Prop := ∀ x y : Int32, OPi l D K yX4_read wsX4_read rmX4_read yX5_read wsX5_read rmX5_read [xIO, xIA, xIS] Rel [.int x, .int y] u v
def OP_readPlain (l : Launch) (D : va_G) (K : Nat → ClassId) (Rel : CU → MU → Prop) (u : CU) (v : MU) : Prop := ∀ x y : Int32, OPi l D K yX4_readPlain wsX4_readPlain rmX4_readPlain yX5_readPlain wsX5_readPlain rmX5_readPlain [xIO, xIA, xIS] Rel [.int x, .int y] u v
def OP_write (l : Launch) (D : va_G) (K : Nat → ClassId) (Rel : CU → MU → Prop) (u : CU) (v : MU) : Prop := ∀ x y z : Int32, OPi l D K yX4_write wsX4_write rmX4_write yX5_write wsX5_write rmX5_write [xIO, xIA, xIS] Rel [.int x, .int y, .int z] u v
def OP_delete (l : Launch) (D : va_G) (K : Nat → ClassId) (Rel : CU → MU → Prop) (u : CU) (v : MU) : Prop := ∀ x y : Int32, OPi l D K yX4_delete wsX4_delete rmX4_delete yX5_delete wsX5_delete rmX5_delete [xIO, xIA, xIS] Rel [.int x, .int y] u v
def OP_clean (l : Launch) (D : va_G) (K : Nat → ClassId) (Rel : CU → MU → Prop) (u : CU) (v : MU) : Prop := ∀ x : Int32, OPi l D K yX4_clean wsX4_clean rmX4_clean yX5_clean wsX5_clean rmX5_clean [xIA] Rel [.int x] u v
def OP_setFreezing (l : Launch) (D : va_G) (K : Nat → ClassId) (Rel : CU → MU → Prop) (u : CU) (v : MU) : Prop := ∀ x : Int32, OPi l D K yX4_setFreezing wsX4_setFreezing rmX4_setFreezing yX5_setFreezing wsX5_setFreezing rmX5_setFreezing [xIA] Rel [.int x] u v
def OP_isMapped (l : Launch) (D : va_G) (K : Nat → ClassId) (Rel : CU → MU → Prop) (u : CU) (v : MU) : Prop := ∀ x : Int32, OPi l D K yX4_isMapped wsX4_isMapped rmX4_isMapped yX5_isMapped wsX5_isMapped rmX5_isMapped [xIA] Rel [.int x] u v
def OP_isWhole (l : Launch) (D : va_G) (K : Nat → ClassId) (Rel : CU → MU → Prop) (u : CU) (v : MU) : Prop := ∀ x : Int32, OPi l D K yX4_isWhole wsX4_isWhole rmX4_isWhole yX5_isWhole wsX5_isWhole rmX5_isWhole [xIA] Rel [.int x] u v
def OP_slot (l : Launch) (D : va_G) (K : Nat → ClassId) (Rel : CU → MU → Prop) (u : CU) (v : MU) : Prop := ∀ x y : Int32, OPi l D K yX4_slot wsX4_slot rmX4_slot yX5_slot wsX5_slot rmX5_slot [xIA] Rel [.int x, .int y] u v
def OP_entries (l : Launch) (D : va_G) (K : Nat → ClassId) (Rel : CU → MU → Prop) (u : CU) (v : MU) : Prop := ∀ x : Int32, OPi l D K yX4_entries wsX4_entries rmX4_entries yX5_entries wsX5_entries rmX5_entries [xIA] Rel [.int x] u v
def OP_fullness (l : Launch) (D : va_G) (K : Nat → ClassId) (Rel : CU → MU → Prop) (u : CU) (v : MU) : Prop := ∀ x : Int32, OPf l D K yX4_fullness wsX4_fullness rmX4_fullness yX5_fullness wsX5_fullness rmX5_fullness [xIA] Rel [.int x] u v
def OP_oldest (l : Launch) (D : va_G) (K : Nat → ClassId) (Rel : CU → MU → Prop) (u : CU) (v : MU) : Prop := ∃ r : Int32, (∀ g, gd (Lg g) g 29 → CI l yX4_oldest wsX4_oldest rmX4_oldest D K (Lg g) [.ref (g 0)] (wC K g u) (wC K g u) r) ∧ ∃ v2, (∀ g, gd (Lm g) g 14 → CI l yX5_oldest wsX5_oldest rmX5_oldest D K (Lm g) [.ref (g 0)] (wM K g v) (wM K g v2) r) ∧ Rel u v2
def RelOK (l : Launch) (D : va_G) (K : Nat → ClassId) (Rel : Nat → CU → MU → Prop) : Prop := ∀ (k : Nat) (u : CU) (v : MU), k < 512 → Rel k u v → (OP_begin l D K (Rel (k + 1)) u v ∧ OP_end l D K (Rel (k + 1)) u v ∧ OP_jump l D K (Rel (k + 1)) u v ∧ OP_stamp l D K (Rel (k + 1)) u v ∧ OP_isBefore l D K (Rel (k + 1)) u v ∧ OP_read l D K (Rel (k + 1)) u v) ∧ (OP_readPlain l D K (Rel (k + 1)) u v ∧ OP_write l D K (Rel (k + 1)) u v ∧ OP_delete l D K (Rel (k + 1)) u v ∧ OP_clean l D K (Rel (k + 1)) u v ∧ OP_setFreezing l D K (Rel (k + 1)) u v ∧ OP_isMapped l D K (Rel (k + 1)) u v) ∧ (OP_isWhole l D K (Rel (k + 1)) u v ∧ OP_slot l D K (Rel (k + 1)) u v ∧ OP_entries l D K (Rel (k + 1)) u v ∧ OP_fullness l D K (Rel (k + 1)) u v ∧ OP_oldest l D K (Rel (k + 1)) u v) ∧ Rel (k + 1) u v
theorem sub4 {L : Nat} (h : L ≤ 2048) : (nI L - 4).toInt = (L : Int) - 4 := by
  have h1 : nI L - 4 = Int32.ofInt ((L : Int) - 4) := by
    rw [show nI L = Int32.ofInt (L : Int) from rfl, show (4 : Int32) = Int32.ofInt 4 from rfl, ← Int32.ofInt_sub]
  rw [h1, Int32.toInt_ofInt_of_le (by simp; omega) (by simp; omega)]
theorem and31 (x : Int32) : ∃ t : Nat, t < 32 ∧ x &&& 31 = nI t := by
  have h : (x &&& 31).toBitVec = x.toBitVec &&& 31#32 := by rw [Int32.toBitVec_and]; rfl
  have h2 : (x.toBitVec &&& 31#32).toNat < 32 := by
    rw [BitVec.toNat_and]; exact Nat.lt_of_le_of_lt Nat.and_le_right (by decide)
  refine ⟨(x.toBitVec &&& 31#32).toNat, h2, Int32.toBitVec_inj.mp ?_⟩
  rw [h]
  show _ = BitVec.ofNat 32 _
  rw [BitVec.ofNat_toNat, BitVec.setWidth_eq]

set_option maxHeartbeats 4000000 in
set_option maxRecDepth 100000 in
theorem law_loop {p : Program} {l : Launch} {e : Env} {s : State} {m : MethodId} {below : List Frame} {meth : Method} {c : Code} {Q : State → Prop} {b L : Nat} {xs : Nat → Int32} {D : va_G} {K : Nat → ClassId} {gc gm : Nat → Nat} {o1 o2 : Nat} {Rel : Nat → CU → MU → Prop} (C : LC p l s m meth c b L xs D K) (J : LD s gc gm o1 o2) (hops : RelOK l D K Rel) (hend : ∀ (H : Heap) (ls : Array Slot), W p l e room_1 s m #[.ref b] below meth c H [] 601024 7293034 Q (F0 m 1194 ls [.int 1])) : ∀ (n k : Nat) (u : CU) (v : MU) (f : AL) (fd : Nat → UInt64), Rel k u v → 513 - k < n → k ≤ 512 → ∀ (H : Heap) (locs : List Loc) (ls : Array Slot), LI D K gc gm o1 o2 u v f fd H → va_S (A0 s) s.heap H locs → lv_has ls 8 [(5, .int (nI (4 * k))), (4, .ref o2), (3, .ref o1), (2, .ref (gm 0)), (1, .ref (gc 0)), (0, .ref b)] → W p l e room_1 s m #[.ref b] below meth c H locs (100 + 6 * k) (4000 + 36 * k) Q (F0 m 28 ls []) := by
  intro n
  induction n with
  | zero =>
    intro k u v f fd _ hn
    exact absurd hn (Nat.not_lt_zero _)
  | succ n ih =>
    intro k u v f fd hR hn hk H locs ls I hS hl
    obtain ⟨hx, hb, hml, hown, hts⟩ := C.1
    have hL9 : L ≤ 2048 := C.2.1.2.2
    have hbl : b < s.heap.size := C.2.1.2.1
    have hbA : ¬ A0 s b := fun h => absurd hbl (Nat.not_lt.mpr (A0_i.mp h))
    refine lv_iload hx hb dL_law_28 (lv_at hl 0 rfl) ?_
    refine lv_aload_n hx hb dL_law_30 rfl (lv_at hl 5 rfl) ?_
    refine va_slen hx hb C.2.1.1 hbl hbA hS dL_law_31 ?_
    refine tpi (y := nI L) rfl ?_
    refine lv_iconst (v := 4) hx hb dL_law_32 (by decide) ?_
    refine lv_isub hx hb dL_law_33 ?_
    refine lv_icmp_gt (tgt := 1193) hx hb dL_law_34 (by decide) (fun c1 => ?_) (fun c1 => ?_)
    · refine lv_iconst (v := 1) hx hb dL_law_1193 (by decide) ?_
      refine va_forget (fun q hq => A0_i.mp (hS.2.2 q hq)) ?_
      refine W.widen (k := 601024) (n := 7293034) (by omega) (by omega) ?_
      exact hend H ls
    · have hi4 : 4 * k + 4 ≤ L := by
        rw [Int32.lt_iff_toInt_lt, sub4 hL9, nI_toInt (by omega)] at c1
        omega
      have hcr : 100 + 6 * k + 6 ≤ room_1.cells := by show _ ≤ 601024; omega
      have hsr : 4000 + 36 * k + 36 ≤ room_1.slots := by show _ ≤ 7293034; omega
      obtain ⟨⟨hop0, hop1, hop2, hop3, hop4, hop5⟩, ⟨hop6, hop7, hop8, hop9, hop10, hop11⟩, ⟨hop12, hop13, hop14, hop15, hop16⟩, hRn⟩ := hops k u v (by omega) hR
      have kk : ∀ (u' : CU) (v' : MU) (f' : AL) (fd' : Nat → UInt64) (H1 : Heap) (locs1 : List Loc) (ls1 : Array Slot), Rel (k + 1) u' v' → LI D K gc gm o1 o2 u' v' f' fd' H1 → va_S (A0 s) s.heap H1 locs1 → lv_has ls1 8 [(5, .int (nI (4 * k))), (4, .ref o2), (3, .ref o1), (2, .ref (gm 0)), (1, .ref (gc 0)), (0, .ref b)] → W p l e room_1 s m #[.ref b] below meth c H1 locs1 (100 + 6 * k + 6) (4000 + 36 * k + 36) Q (F0 m 1187 ls1 []) := by
        intro u' v' f' fd' H1 locs1 ls1 hR' I' hS' hl'
        refine lv_iinc (v := nI (4 * (k + 1))) (lv' := [(5, .int (nI (4 * (k + 1)))), (4, .ref o2), (3, .ref o1), (2, .ref (gm 0)), (1, .ref (gc 0)), (0, .ref b)]) hx hb dL_law_1187 hl' (k := 0) rfl (by rw [show 4 * (k + 1) = 4 * k + 4 by omega]; exact nI_add (4 * k) 4) (by decide) rfl (fun ls hl => ?_)
        refine lv_goto (tgt := 28) hx hb dL_law_1190 (by decide) ?_
        have z9 := ih (k + 1) u' v' f' fd' hR' (by omega) (by omega) H1 locs1 ls I' hS' hl
        rw [show 100 + 6 * (k + 1) = 100 + 6 * k + 6 by omega, show 4000 + 36 * (k + 1) = 4000 + 36 * k + 36 by omega] at z9
        exact z9
      refine lv_aload_n hx hb dL_law_37 rfl (lv_at hl 5 rfl) ?_
      refine lv_iload hx hb dL_law_38 (lv_at hl 0 rfl) ?_
      refine sld C hS (j := 4 * k) (by omega) rfl dL_law_40 ?_
      refine lv_bipush (v := 31) hx hb dL_law_41 (by decide) ?_
      refine lv_iand hx hb dL_law_43 ?_
      obtain ⟨t, ht, et⟩ := and31 (xs (4 * k))
      refine tpi (y := nI t) et ?_
      by_cases h17 : 17 ≤ t
      · refine lv_tableOut (tgt := 1187) hx hb dL_law_44 (Or.inr (by rw [nI_toInt (by omega)]; omega)) (by decide) ?_
        exact W.widen (Nat.le_add_right _ _) (Nat.le_add_right _ _) (kk u v f fd H locs ls hRn I hS hl)
      · have h9 : t = 0 ∨ t = 1 ∨ t = 2 ∨ t = 3 ∨ t = 4 ∨ t = 5 ∨ t = 6 ∨ t = 7 ∨ t = 8 ∨ t = 9 ∨ t = 10 ∨ t = 11 ∨ t = 12 ∨ t = 13 ∨ t = 14 ∨ t = 15 ∨ t = 16 := by omega
        rcases h9 with rfl | rfl | rfl | rfl | rfl | rfl | rfl | rfl | rfl | rfl | rfl | rfl | rfl | rfl | rfl | rfl | rfl
        · refine lv_tableIn (off := 84) (tgt := 128) hx hb dL_law_44 (by decide +kernel) (by decide +kernel) rfl (by decide) ?_
          exact law_begin C J I hS hi4 hcr hsr hl hop0 kk
        · refine lv_tableIn (off := 128) (tgt := 172) hx hb dL_law_44 (by decide +kernel) (by decide +kernel) rfl (by decide) ?_
          exact law_end C J I hS hi4 hcr hsr hl (hop1 _ _) kk
        · refine lv_tableIn (off := 212) (tgt := 256) hx hb dL_law_44 (by decide +kernel) (by decide +kernel) rfl (by decide) ?_
          exact law_jump C J I hS hi4 hcr hsr hl (hop2 _) kk
        · refine lv_tableIn (off := 268) (tgt := 312) hx hb dL_law_44 (by decide +kernel) (by decide +kernel) rfl (by decide) ?_
          exact law_stamp C J I hS hi4 hcr hsr hl (hop3 _) kk
        · refine lv_tableIn (off := 324) (tgt := 368) hx hb dL_law_44 (by decide +kernel) (by decide +kernel) rfl (by decide) ?_
          exact law_isBefore C J I hS hi4 hcr hsr hl (hop4 _ _) kk
        · refine lv_tableIn (off := 399) (tgt := 443) hx hb dL_law_44 (by decide +kernel) (by decide +kernel) rfl (by decide) ?_
          exact law_read C J I hS hi4 hcr hsr hl (hop5 _ _) kk
        · refine lv_tableIn (off := 467) (tgt := 511) hx hb dL_law_44 (by decide +kernel) (by decide +kernel) rfl (by decide) ?_
          exact law_readPlain C J I hS hi4 hcr hsr hl (hop6 _ _) kk
        · refine lv_tableIn (off := 535) (tgt := 579) hx hb dL_law_44 (by decide +kernel) (by decide +kernel) rfl (by decide) ?_
          exact law_write C J I hS hi4 hcr hsr hl (hop7 _ _ _) kk
        · refine lv_tableIn (off := 615) (tgt := 659) hx hb dL_law_44 (by decide +kernel) (by decide +kernel) rfl (by decide) ?_
          exact law_delete C J I hS hi4 hcr hsr hl (hop8 _ _) kk
        · refine lv_tableIn (off := 690) (tgt := 734) hx hb dL_law_44 (by decide +kernel) (by decide +kernel) rfl (by decide) ?_
          exact law_clean C J I hS hi4 hcr hsr hl (hop9 _) kk
        · refine lv_tableIn (off := 746) (tgt := 790) hx hb dL_law_44 (by decide +kernel) (by decide +kernel) rfl (by decide) ?_
          exact law_setFreezing C J I hS hi4 hcr hsr hl (hop10 _) kk
        · refine lv_tableIn (off := 802) (tgt := 846) hx hb dL_law_44 (by decide +kernel) (by decide +kernel) rfl (by decide) ?_
          exact law_isMapped C J I hS hi4 hcr hsr hl (hop11 _) kk
        · refine lv_tableIn (off := 865) (tgt := 909) hx hb dL_law_44 (by decide +kernel) (by decide +kernel) rfl (by decide) ?_
          exact law_isWhole C J I hS hi4 hcr hsr hl (hop12 _) kk
        · refine lv_tableIn (off := 928) (tgt := 972) hx hb dL_law_44 (by decide +kernel) (by decide +kernel) rfl (by decide) ?_
          exact law_slot C J I hS hi4 hcr hsr hl (hop13 _ _) kk
        · refine lv_tableIn (off := 996) (tgt := 1040) hx hb dL_law_44 (by decide +kernel) (by decide +kernel) rfl (by decide) ?_
          exact law_entries C J I hS hi4 hcr hsr hl (hop14 _) kk
        · refine lv_tableIn (off := 1052) (tgt := 1096) hx hb dL_law_44 (by decide +kernel) (by decide +kernel) rfl (by decide) ?_
          exact law_fullness C J I hS hi4 hcr hsr hl (hop15 _) kk
        · refine lv_tableIn (off := 1130) (tgt := 1174) hx hb dL_law_44 (by decide +kernel) (by decide +kernel) rfl (by decide) ?_
          exact law_oldest C J I hS hi4 hcr hsr hl hop16 kk

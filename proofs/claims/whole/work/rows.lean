section
-- ===== PART A: goes FIRST, ahead of the names: the tables' words, and 'selects' of the private methods out of them =====
/-- a private method of a class that the tables say can be made, by its rows of tables_1 -/
def lw_okq (q : MethodName × Nat) : Prop := (q.1.cls ≠ "java/lang/invoke/MethodHandle" ∧ q.1.cls ≠ "java/lang/invoke/VarHandle") ∧ Cond.instantiable q.1.cls q.2 ∈ tables_1 ∧ Cond.privateMethod q.1 ∈ tables_1 ∧ Cond.instanceMethod q.1 ∈ tables_1
theorem lw_p0 : lw_okq (⟨"java/lang/Throwable", "fillInStackTrace", "(I)Ljava/lang/Throwable;"⟩, 6) := ⟨⟨by decide +kernel, by decide +kernel⟩, List.mem_of_getElem? (i := 251) (by decide +kernel), List.mem_of_getElem? (i := 249) (by decide +kernel), List.mem_of_getElem? (i := 250) (by decide +kernel)⟩
theorem lw_p1 : lw_okq (⟨"RowPages", "checkTransaction", "(I)V"⟩, 6) := ⟨⟨by decide +kernel, by decide +kernel⟩, List.mem_of_getElem? (i := 16) (by decide +kernel), List.mem_of_getElem? (i := 299) (by decide +kernel), List.mem_of_getElem? (i := 300) (by decide +kernel)⟩
theorem lw_p2 : lw_okq (⟨"RowPages", "checkActive", "(I)V"⟩, 6) := ⟨⟨by decide +kernel, by decide +kernel⟩, List.mem_of_getElem? (i := 16) (by decide +kernel), List.mem_of_getElem? (i := 323) (by decide +kernel), List.mem_of_getElem? (i := 324) (by decide +kernel)⟩
theorem lw_p3 : lw_okq (⟨"RowPages", "seenPlace", "(II)I"⟩, 6) := ⟨⟨by decide +kernel, by decide +kernel⟩, List.mem_of_getElem? (i := 16) (by decide +kernel), List.mem_of_getElem? (i := 408) (by decide +kernel), List.mem_of_getElem? (i := 409) (by decide +kernel)⟩
theorem lw_p4 : lw_okq (⟨"RowPages", "seenInChain", "(II)I"⟩, 6) := ⟨⟨by decide +kernel, by decide +kernel⟩, List.mem_of_getElem? (i := 16) (by decide +kernel), List.mem_of_getElem? (i := 412) (by decide +kernel), List.mem_of_getElem? (i := 413) (by decide +kernel)⟩
theorem lw_p5 : lw_okq (⟨"RowPages", "sees", "(II)Z"⟩, 6) := ⟨⟨by decide +kernel, by decide +kernel⟩, List.mem_of_getElem? (i := 16) (by decide +kernel), List.mem_of_getElem? (i := 419) (by decide +kernel), List.mem_of_getElem? (i := 420) (by decide +kernel)⟩
theorem lw_p6 : lw_okq (⟨"RowPages", "checkNotRefused", "(II)V"⟩, 6) := ⟨⟨by decide +kernel, by decide +kernel⟩, List.mem_of_getElem? (i := 16) (by decide +kernel), List.mem_of_getElem? (i := 445) (by decide +kernel), List.mem_of_getElem? (i := 446) (by decide +kernel)⟩
theorem lw_p7 : lw_okq (⟨"RowPages", "placeForNew", "(I)I"⟩, 6) := ⟨⟨by decide +kernel, by decide +kernel⟩, List.mem_of_getElem? (i := 16) (by decide +kernel), List.mem_of_getElem? (i := 455) (by decide +kernel), List.mem_of_getElem? (i := 456) (by decide +kernel)⟩
theorem lw_p8 : lw_okq (⟨"RowPages", "putDeath", "(II)V"⟩, 6) := ⟨⟨by decide +kernel, by decide +kernel⟩, List.mem_of_getElem? (i := 16) (by decide +kernel), List.mem_of_getElem? (i := 471) (by decide +kernel), List.mem_of_getElem? (i := 472) (by decide +kernel)⟩
theorem lw_p9 : lw_okq (⟨"RowPages", "putVersion", "(IIII)V"⟩, 6) := ⟨⟨by decide +kernel, by decide +kernel⟩, List.mem_of_getElem? (i := 16) (by decide +kernel), List.mem_of_getElem? (i := 479) (by decide +kernel), List.mem_of_getElem? (i := 480) (by decide +kernel)⟩
theorem lw_p10 : lw_okq (⟨"RowPages", "canGo", "(IJ)Z"⟩, 6) := ⟨⟨by decide +kernel, by decide +kernel⟩, List.mem_of_getElem? (i := 16) (by decide +kernel), List.mem_of_getElem? (i := 517) (by decide +kernel), List.mem_of_getElem? (i := 518) (by decide +kernel)⟩
theorem lw_p11 : lw_okq (⟨"RowPages", "takeOut", "(I)V"⟩, 6) := ⟨⟨by decide +kernel, by decide +kernel⟩, List.mem_of_getElem? (i := 16) (by decide +kernel), List.mem_of_getElem? (i := 527) (by decide +kernel), List.mem_of_getElem? (i := 528) (by decide +kernel)⟩
theorem lw_p12 : lw_okq (⟨"RowPages", "freezeOldOnes", "(IJ)V"⟩, 6) := ⟨⟨by decide +kernel, by decide +kernel⟩, List.mem_of_getElem? (i := 16) (by decide +kernel), List.mem_of_getElem? (i := 540) (by decide +kernel), List.mem_of_getElem? (i := 541) (by decide +kernel)⟩
theorem lw_p13 : lw_okq (⟨"RowPages", "isSeenByAll", "(IJ)Z"⟩, 6) := ⟨⟨by decide +kernel, by decide +kernel⟩, List.mem_of_getElem? (i := 16) (by decide +kernel), List.mem_of_getElem? (i := 548) (by decide +kernel), List.mem_of_getElem? (i := 549) (by decide +kernel)⟩
theorem lw_p14 : lw_okq (⟨"RowPagesModel", "oldestNow", "()I"⟩, 17) := ⟨⟨by decide +kernel, by decide +kernel⟩, List.mem_of_getElem? (i := 597) (by decide +kernel), List.mem_of_getElem? (i := 663) (by decide +kernel), List.mem_of_getElem? (i := 664) (by decide +kernel)⟩
theorem lw_p15 : lw_okq (⟨"RowPagesModel", "ageOf", "(I)I"⟩, 17) := ⟨⟨by decide +kernel, by decide +kernel⟩, List.mem_of_getElem? (i := 597) (by decide +kernel), List.mem_of_getElem? (i := 667) (by decide +kernel), List.mem_of_getElem? (i := 668) (by decide +kernel)⟩
def lw_privs_1 : List (MethodName × Nat) := [(⟨"java/lang/Throwable", "fillInStackTrace", "(I)Ljava/lang/Throwable;"⟩, 6), (⟨"RowPages", "checkTransaction", "(I)V"⟩, 6), (⟨"RowPages", "checkActive", "(I)V"⟩, 6), (⟨"RowPages", "seenPlace", "(II)I"⟩, 6), (⟨"RowPages", "seenInChain", "(II)I"⟩, 6), (⟨"RowPages", "sees", "(II)Z"⟩, 6), (⟨"RowPages", "checkNotRefused", "(II)V"⟩, 6), (⟨"RowPages", "placeForNew", "(I)I"⟩, 6), (⟨"RowPages", "putDeath", "(II)V"⟩, 6), (⟨"RowPages", "putVersion", "(IIII)V"⟩, 6), (⟨"RowPages", "canGo", "(IJ)Z"⟩, 6), (⟨"RowPages", "takeOut", "(I)V"⟩, 6), (⟨"RowPages", "freezeOldOnes", "(IJ)V"⟩, 6), (⟨"RowPages", "isSeenByAll", "(IJ)Z"⟩, 6), (⟨"RowPagesModel", "oldestNow", "()I"⟩, 17), (⟨"RowPagesModel", "ageOf", "(I)I"⟩, 17)]
theorem lw_r1 : ∀ q ∈ lw_privs_1, lw_okq q := List.forall_mem_cons.mpr ⟨lw_p0, List.forall_mem_cons.mpr ⟨lw_p1, List.forall_mem_cons.mpr ⟨lw_p2, List.forall_mem_cons.mpr ⟨lw_p3, List.forall_mem_cons.mpr ⟨lw_p4, List.forall_mem_cons.mpr ⟨lw_p5, List.forall_mem_cons.mpr ⟨lw_p6, List.forall_mem_cons.mpr ⟨lw_p7, List.forall_mem_cons.mpr ⟨lw_p8, List.forall_mem_cons.mpr ⟨lw_p9, List.forall_mem_cons.mpr ⟨lw_p10, List.forall_mem_cons.mpr ⟨lw_p11, List.forall_mem_cons.mpr ⟨lw_p12, List.forall_mem_cons.mpr ⟨lw_p13, List.forall_mem_cons.mpr ⟨lw_p14, List.forall_mem_cons.mpr ⟨lw_p15, fun _ h => absurd h List.not_mem_nil⟩⟩⟩⟩⟩⟩⟩⟩⟩⟩⟩⟩⟩⟩⟩⟩
theorem lw_p16 : lw_okq (⟨"RowPagesModel", "isActive", "(I)Z"⟩, 17) := ⟨⟨by decide +kernel, by decide +kernel⟩, List.mem_of_getElem? (i := 597) (by decide +kernel), List.mem_of_getElem? (i := 671) (by decide +kernel), List.mem_of_getElem? (i := 672) (by decide +kernel)⟩
theorem lw_p17 : lw_okq (⟨"RowPagesModel", "isFine", "(I)Z"⟩, 17) := ⟨⟨by decide +kernel, by decide +kernel⟩, List.mem_of_getElem? (i := 597) (by decide +kernel), List.mem_of_getElem? (i := 675) (by decide +kernel), List.mem_of_getElem? (i := 676) (by decide +kernel)⟩
theorem lw_p18 : lw_okq (⟨"RowPagesModel", "isTransaction", "(I)Z"⟩, 17) := ⟨⟨by decide +kernel, by decide +kernel⟩, List.mem_of_getElem? (i := 597) (by decide +kernel), List.mem_of_getElem? (i := 683) (by decide +kernel), List.mem_of_getElem? (i := 684) (by decide +kernel)⟩
theorem lw_p19 : lw_okq (⟨"RowPagesModel", "readNow", "(II)I"⟩, 17) := ⟨⟨by decide +kernel, by decide +kernel⟩, List.mem_of_getElem? (i := 597) (by decide +kernel), List.mem_of_getElem? (i := 706) (by decide +kernel), List.mem_of_getElem? (i := 707) (by decide +kernel)⟩
theorem lw_p20 : lw_okq (⟨"RowPagesModel", "seen", "(II)I"⟩, 17) := ⟨⟨by decide +kernel, by decide +kernel⟩, List.mem_of_getElem? (i := 597) (by decide +kernel), List.mem_of_getElem? (i := 713) (by decide +kernel), List.mem_of_getElem? (i := 714) (by decide +kernel)⟩
theorem lw_p21 : lw_okq (⟨"RowPagesModel", "sees", "(II)Z"⟩, 17) := ⟨⟨by decide +kernel, by decide +kernel⟩, List.mem_of_getElem? (i := 597) (by decide +kernel), List.mem_of_getElem? (i := 717) (by decide +kernel), List.mem_of_getElem? (i := 718) (by decide +kernel)⟩
theorem lw_p22 : lw_okq (⟨"RowPagesModel", "knows", "(II)Z"⟩, 17) := ⟨⟨by decide +kernel, by decide +kernel⟩, List.mem_of_getElem? (i := 597) (by decide +kernel), List.mem_of_getElem? (i := 721) (by decide +kernel), List.mem_of_getElem? (i := 722) (by decide +kernel)⟩
theorem lw_p23 : lw_okq (⟨"RowPagesModel", "isInSnapshot", "(II)Z"⟩, 17) := ⟨⟨by decide +kernel, by decide +kernel⟩, List.mem_of_getElem? (i := 597) (by decide +kernel), List.mem_of_getElem? (i := 725) (by decide +kernel), List.mem_of_getElem? (i := 726) (by decide +kernel)⟩
theorem lw_p24 : lw_okq (⟨"RowPagesModel", "free", "(II)I"⟩, 17) := ⟨⟨by decide +kernel, by decide +kernel⟩, List.mem_of_getElem? (i := 597) (by decide +kernel), List.mem_of_getElem? (i := 737) (by decide +kernel), List.mem_of_getElem? (i := 738) (by decide +kernel)⟩
theorem lw_p25 : lw_okq (⟨"RowPagesModel", "isRefused", "(II)Z"⟩, 17) := ⟨⟨by decide +kernel, by decide +kernel⟩, List.mem_of_getElem? (i := 597) (by decide +kernel), List.mem_of_getElem? (i := 741) (by decide +kernel), List.mem_of_getElem? (i := 742) (by decide +kernel)⟩
theorem lw_p26 : lw_okq (⟨"RowPagesModel", "bars", "(II)Z"⟩, 17) := ⟨⟨by decide +kernel, by decide +kernel⟩, List.mem_of_getElem? (i := 597) (by decide +kernel), List.mem_of_getElem? (i := 745) (by decide +kernel), List.mem_of_getElem? (i := 746) (by decide +kernel)⟩
theorem lw_p27 : lw_okq (⟨"RowPagesModel", "puts", "(IIII)V"⟩, 17) := ⟨⟨by decide +kernel, by decide +kernel⟩, List.mem_of_getElem? (i := 597) (by decide +kernel), List.mem_of_getElem? (i := 749) (by decide +kernel), List.mem_of_getElem? (i := 750) (by decide +kernel)⟩
theorem lw_p28 : lw_okq (⟨"RowPagesModel", "dies", "(II)V"⟩, 17) := ⟨⟨by decide +kernel, by decide +kernel⟩, List.mem_of_getElem? (i := 597) (by decide +kernel), List.mem_of_getElem? (i := 753) (by decide +kernel), List.mem_of_getElem? (i := 754) (by decide +kernel)⟩
theorem lw_p29 : lw_okq (⟨"RowPagesModel", "canGo", "(I)Z"⟩, 17) := ⟨⟨by decide +kernel, by decide +kernel⟩, List.mem_of_getElem? (i := 597) (by decide +kernel), List.mem_of_getElem? (i := 769) (by decide +kernel), List.mem_of_getElem? (i := 770) (by decide +kernel)⟩
theorem lw_p30 : lw_okq (⟨"RowPagesModel", "isPast", "(I)Z"⟩, 17) := ⟨⟨by decide +kernel, by decide +kernel⟩, List.mem_of_getElem? (i := 597) (by decide +kernel), List.mem_of_getElem? (i := 773) (by decide +kernel), List.mem_of_getElem? (i := 774) (by decide +kernel)⟩
theorem lw_p31 : lw_okq (⟨"RowPagesModel", "leaves", "(I)V"⟩, 17) := ⟨⟨by decide +kernel, by decide +kernel⟩, List.mem_of_getElem? (i := 597) (by decide +kernel), List.mem_of_getElem? (i := 777) (by decide +kernel), List.mem_of_getElem? (i := 778) (by decide +kernel)⟩
def lw_privs_2 : List (MethodName × Nat) := [(⟨"RowPagesModel", "isActive", "(I)Z"⟩, 17), (⟨"RowPagesModel", "isFine", "(I)Z"⟩, 17), (⟨"RowPagesModel", "isTransaction", "(I)Z"⟩, 17), (⟨"RowPagesModel", "readNow", "(II)I"⟩, 17), (⟨"RowPagesModel", "seen", "(II)I"⟩, 17), (⟨"RowPagesModel", "sees", "(II)Z"⟩, 17), (⟨"RowPagesModel", "knows", "(II)Z"⟩, 17), (⟨"RowPagesModel", "isInSnapshot", "(II)Z"⟩, 17), (⟨"RowPagesModel", "free", "(II)I"⟩, 17), (⟨"RowPagesModel", "isRefused", "(II)Z"⟩, 17), (⟨"RowPagesModel", "bars", "(II)Z"⟩, 17), (⟨"RowPagesModel", "puts", "(IIII)V"⟩, 17), (⟨"RowPagesModel", "dies", "(II)V"⟩, 17), (⟨"RowPagesModel", "canGo", "(I)Z"⟩, 17), (⟨"RowPagesModel", "isPast", "(I)Z"⟩, 17), (⟨"RowPagesModel", "leaves", "(I)V"⟩, 17)]
theorem lw_r2 : ∀ q ∈ lw_privs_2, lw_okq q := List.forall_mem_cons.mpr ⟨lw_p16, List.forall_mem_cons.mpr ⟨lw_p17, List.forall_mem_cons.mpr ⟨lw_p18, List.forall_mem_cons.mpr ⟨lw_p19, List.forall_mem_cons.mpr ⟨lw_p20, List.forall_mem_cons.mpr ⟨lw_p21, List.forall_mem_cons.mpr ⟨lw_p22, List.forall_mem_cons.mpr ⟨lw_p23, List.forall_mem_cons.mpr ⟨lw_p24, List.forall_mem_cons.mpr ⟨lw_p25, List.forall_mem_cons.mpr ⟨lw_p26, List.forall_mem_cons.mpr ⟨lw_p27, List.forall_mem_cons.mpr ⟨lw_p28, List.forall_mem_cons.mpr ⟨lw_p29, List.forall_mem_cons.mpr ⟨lw_p30, List.forall_mem_cons.mpr ⟨lw_p31, fun _ h => absurd h List.not_mem_nil⟩⟩⟩⟩⟩⟩⟩⟩⟩⟩⟩⟩⟩⟩⟩⟩
theorem lw_p32 : lw_okq (⟨"RowPagesModel", "isWholeNow", "(I)Z"⟩, 17) := ⟨⟨by decide +kernel, by decide +kernel⟩, List.mem_of_getElem? (i := 597) (by decide +kernel), List.mem_of_getElem? (i := 781) (by decide +kernel), List.mem_of_getElem? (i := 782) (by decide +kernel)⟩
def lw_privs_3 : List (MethodName × Nat) := [(⟨"RowPagesModel", "isWholeNow", "(I)Z"⟩, 17)]
theorem lw_r3 : ∀ q ∈ lw_privs_3, lw_okq q := List.forall_mem_cons.mpr ⟨lw_p32, fun _ h => absurd h List.not_mem_nil⟩
def lw_privs : List (MethodName × Nat) := lw_privs_1 ++ (lw_privs_2 ++ (lw_privs_3))
def lw_tbl : List Cond := k2_sels lw_privs ++ tables_1
theorem lw_privs_ok : ∀ q ∈ lw_privs, lw_okq q := by
  show ∀ q ∈ lw_privs_1 ++ (lw_privs_2 ++ (lw_privs_3)), lw_okq q
  exact List.forall_mem_append.mpr ⟨lw_r1, List.forall_mem_append.mpr ⟨lw_r2, lw_r3⟩⟩
/-- the streams that the claim lets the run draw from -/
abbrev lw_cs : List Choice := [Jvm.Choice.named "NaN.bits"]
theorem lw_bits : nanBits ∈ lw_cs := by first | decide | exact List.mem_cons_self | simp [lw_cs, nanBits]
-- ===== end of PART A; then your names; then what follows =====
/-! ===== BEGIN words of one list among another's, by their places ===== -/
theorem goodIn_r {big : List Cond} (ws : List Cond) (ps : List Nat) (hp : ws = ps.filterMap (fun i => big[i]?)) (h : ws.all goodWord = true) : GoodIn big ws := by
  intro w hw
  have h1 := List.all_eq_true.mp h w hw
  rw [hp] at hw
  obtain ⟨i, -, hi⟩ := List.mem_filterMap.mp hw
  have hm : w ∈ big := by first | exact List.mem_of_getElem? hi | exact List.getElem?_mem hi
  exact ⟨hm, good_of_word h1⟩
theorem goodIn_app {big a b : List Cond} (ha : GoodIn big a) (hb : GoodIn big b) : GoodIn big (a ++ b) := fun w h => (List.mem_append.mp h).elim (ha w) (hb w)
theorem goodIn_ca {big a b : List Cond} {c : Cond} (ha : GoodIn big (c :: a)) (hb : GoodIn big b) : GoodIn big (c :: (a ++ b)) := fun w h => (List.mem_cons.mp h).elim (fun e => ha w (List.mem_cons.mpr (Or.inl e))) (fun h => (List.mem_append.mp h).elim (fun h => ha w (List.mem_cons.mpr (Or.inr h))) (hb w))
theorem goodIn_sub {big ws : List Cond} (hm : ∀ w ∈ ws, w ∈ big) (h : ws.all goodWord = true) : GoodIn big ws := fun w hw => ⟨hm w hw, good_of_word (List.all_eq_true.mp h w hw)⟩
/-! ===== END ===== -/

/-! the word that va_mna asks for (wanting in the printed text) -/
def va_AOA (ty : FieldType) (U : State) : Prop := (Cond.arrayOver (.array ty)).before #[] U = true
theorem va_AOA.of {ty : FieldType} {A : Array Value} {U : State} (h : (Cond.arrayOver (.array ty)).before A U = true) : va_AOA ty U := h
theorem va_AOA.use {ty : FieldType} {A : Array Value} {U : State} (h : va_AOA ty U) : (Cond.arrayOver (.array ty)).before A U = true := h
/-! ===== BEGIN new T[n][m]: the outer array a place, the inner ones among the pooled ===== -/
/-- f, but v at every address of l -/
def vr_up {α : Type} (f : Nat → α) (l : List Nat) (v : α) : Nat → α := fun a => if a ∈ l then v else f a
theorem vr_up_in {α : Type} {f : Nat → α} {l : List Nat} {v : α} {a : Nat} (h : a ∈ l) : vr_up f l v a = v := if_pos h
theorem vr_up_ne {α : Type} {f : Nat → α} {l : List Nat} {v : α} {a : Nat} (h : a ∉ l) : vr_up f l v a = f a := if_neg h
theorem vr_rows {L l : List Nat} {f : Nat → va_E} {e : va_E} (h : ∀ a, a ∈ l → a ∉ L) : va_pl L f ++ l.map (fun a => (a, e)) = va_pl (L ++ l) (vr_up f l e) := by
  unfold va_pl
  rw [List.map_append]
  congr 1
  · apply List.map_congr_left
    intro a ha
    rw [vr_up_ne (fun q => h a q ha)]
  · apply List.map_congr_left
    intro a ha
    rw [vr_up_in ha]
theorem vr_lay {X rows : va_W} {x : Nat × va_E} {pl : va_W} {D : va_G} {cl : List vw_C} {H : Heap} (hP : va_P D cl (((X ++ pl) ++ [x]) ++ rows) H) : va_P D cl ((X ++ [x]) ++ (pl ++ rows)) H := by
  rw [List.append_assoc (X ++ pl)] at hP
  have h := va_P.swap hP
  rw [← List.append_assoc X] at h
  have h2 := va_P.swap h
  rw [List.append_assoc (X ++ [x])] at h2
  exact h2
theorem vr_layD {X rows : va_W} {x : Nat × va_E} {pl : va_W} {A : Nat → Prop} (hD : va_D A (((X ++ pl) ++ [x]) ++ rows)) : va_D A ((X ++ [x]) ++ (pl ++ rows)) := by
  rw [List.append_assoc (X ++ pl)] at hD
  have h := va_D.swap hD
  rw [← List.append_assoc X] at h
  have h2 := va_D.swap h
  rw [List.append_assoc (X ++ [x])] at h2
  exact h2
theorem vr_outer (c : ClassId) (N h0 : Nat) : ∀ i : Nat, Jvm.Free.Multi.outerC c N h0 i = arrV c N (fun j => va_rf (if j < i then some (h0 + 1 + j) else none))
  | 0 => by
    show ({ cls := c, slots := Array.replicate N .null, vm := .none } : Cell) = _
    rw [arrV_new]
    refine congrArg (arrV c N) (funext fun j => ?_)
    simp [va_rf]
  | i + 1 => by
    show (Jvm.Free.Multi.outerC c N h0 i).setSlot i (.ref (h0 + 1 + i)) = _
    rw [vr_outer c N h0 i, arrV_store]
    refine congrArg (arrV c N) (funext fun j => ?_)
    by_cases e : j = i
    · subst e
      simp [updV, va_rf]
    · by_cases h : j < i
      · simp [updV, e, h, Nat.lt_succ_of_lt h]
      · simp [updV, e, h, show ¬ j < i + 1 by omega]
section VGM
variable {p : Program} {l : Launch} {e : Env} {R : Room} {s : State} {m : MethodId} {args : Array Value} {below : List Frame} {meth : Method} {c : Code} {H : Heap} {locs : List Loc} {cells slots : Nat} {Q : State → Prop}
variable {cc : ByteArray} {pc : Nat} {ls : Array Slot} {rest : List Value} {D : va_G} {cl : List vw_C} {A : Nat → Prop} {a : Nat} {tys : List (ClassId × FieldType)} {ws : va_W} {H0 : Heap}
theorem va_mna {X : va_W} {L : List Nat} {f : Nat → va_E} {cc : ByteArray} (hexec : p.tables.exec = Jvm.exec) (hb : c.code = cc) {own : String} {index : Nat} {ty : FieldType} {cy : ClassId} (hown : s.vm.findClass own = some m.cls) (hclink : (Cond.classLink own index ("[" ++ (FieldType.array ty).toString)).before args s = true) (hover : va_AOA ty s) (harr : (Cond.arrayClass ty).before args s = true) (hcy : s.vm.findClass (FieldType.array ty).toString = some cy)
    (hK : va_K D cl tys s) (hP : va_P D cl (X ++ va_pl L f) H) (hD : va_D A (X ++ va_pl L f)) (hS : va_S A H0 H locs) (hA : ∀ q, H0.size ≤ q → A q) {n k : Int32} {N' K' : Nat} {z : vp_A} (hn : ¬ n < 0) (hk : ¬ k < 0) (hN : n.toNatClampNeg = N') (hM : k.toNatClampNeg = K')
    (hb1 : N' * 4 ≤ 536870912) (hb2 : K' * componentBytes ty ≤ 536870912) (hb3 : K' ≤ 536870912) (hdf : fits ty (defaultValue ty) = true) (hdd : (defaultValue ty).isDefault = true) (hcells : cells + (1 + N') ≤ R.cells) (hslots : slots + (N' + N' * K') ≤ R.slots) (hz : ∀ c : ClassId, Jvm.Free.Multi.innerC c K' (defaultValue ty) = vp_cell c z) (hdg : decode cc pc = .ok (.multianewarray index 2, 4))
    (kk : ∀ (q : Nat) (r : Nat → Nat) (cA : ClassId) (H1 : Heap), (∀ i j : Nat, i < N' → j < N' → r i = r j → i = j) → (∀ i : Nat, i < N' → r i ∉ L) → va_K D cl (tys ++ [(cA, .array ty)]) s →
      va_P D cl ((X ++ [(q, .inl (cA, N', .inr (.inr (.inr (.inr (fun i => if i < N' then some (r i) else none))))))]) ++ va_pl (L ++ (List.range N').map r) (vr_up f ((List.range N').map r) (.inl (cy, z)))) H1 → va_D A ((X ++ [(q, .inl (cA, N', .inr (.inr (.inr (.inr (fun i => if i < N' then some (r i) else none))))))]) ++ va_pl (L ++ (List.range N').map r) (vr_up f ((List.range N').map r) (.inl (cy, z)))) → va_S A H0 H1 locs →
      W p l e R s m args below meth c H1 locs (cells + 1 + N') (slots + N' + N' * K') Q (F0 m (pc + 4) ls (.ref q :: rest))) : W p l e R s m args below meth c H locs cells slots Q (F0 m pc ls (.int k :: .int n :: rest)) := by
  subst hN
  subst hM
  intro T hT Xs
  obtain ⟨vm₁, cA, comp, -, fA, fC, hO, -, X', step⟩ := Xs.multianewarray2F hexec hown hclink (va_AOA.use hover) harr (g := F0 m pc ls (.int k :: .int n :: rest)) rfl (by rw [hb]; exact hdg) rfl hn hk hb1 hb2 hb3 hdf hdd hcells hslots
  have ec : some cy = some comp := hcy.symm.trans fC
  cases ec
  generalize hF : Jvm.Free.Multi.fill (T.setVm vm₁) cA cy n.toNatClampNeg k.toNatClampNeg (defaultValue ty) n.toNatClampNeg = F at X' step
  have hTh : (T.setVm vm₁).heap = H := hT
  obtain ⟨f1, f2, -, -⟩ := Jvm.Free.Multi.fill_facts (T.setVm vm₁) cA cy n.toNatClampNeg k.toNatClampNeg (defaultValue ty) n.toNatClampNeg
  rw [hF, hTh] at f1 f2
  have hold : ∀ x : Nat, x < H.size → F.heap[x]? = H[x]? := fun x hx => by
    have := Jvm.Free.Multi.fill_old (T.setVm vm₁) cA cy n.toNatClampNeg k.toNatClampNeg (defaultValue ty) (a := x) (by rw [hTh]; exact hx) n.toNatClampNeg
    rw [hF, hTh] at this
    exact this
  have hrow : ∀ j : Nat, j < n.toNatClampNeg → F.heap[H.size + 1 + j]? = some (vp_cell cy z) := fun j hj => by
    have := Jvm.Free.Multi.fill_inner (T.setVm vm₁) cA cy n.toNatClampNeg k.toNatClampNeg (defaultValue ty) n.toNatClampNeg j hj
    rw [hF, hTh, hz] at this
    exact this
  have hout : Jvm.Free.Multi.outerC cA n.toNatClampNeg H.size n.toNatClampNeg = vp_cell cA (n.toNatClampNeg, .inr (.inr (.inr (.inr (fun i => if i < n.toNatClampNeg then some (H.size + 1 + i) else none))))) := by
    rw [vp_cell_q]
    exact vr_outer cA n.toNatClampNeg H.size n.toNatClampNeg
  rw [hout] at f2
  have hlt : ∀ a, a ∈ L → a < H.size := fun a ha => by
    obtain ⟨k9, hk9⟩ := va_pl_get (X := X) (f := f) ha
    exact (hP k9 _ hk9).lt
  have hnl : ∀ i : Nat, i < n.toNatClampNeg → H.size + 1 + i ∉ L := fun i _ h => by
    have := hlt _ h
    omega
  have hnm : ∀ a, a ∈ (List.range n.toNatClampNeg).map (fun i => H.size + 1 + i) → a ∉ L := fun a ha h => by
    obtain ⟨i, -, rfl⟩ := List.mem_map.mp ha
    have := hlt _ h
    omega
  have hP0 : va_P D cl (X ++ va_pl L f) F.heap := hP.kept (fun k9 x hx => hold x.1 ((hP k9 x hx).lt))
  have hP1 : va_P D cl ((X ++ va_pl L f) ++ [(H.size, .inl (cA, n.toNatClampNeg, .inr (.inr (.inr (.inr (fun i => if i < n.toNatClampNeg then some (H.size + 1 + i) else none))))))]) F.heap := hP0.app (fun k9 x hx => by
    have h0 : k9 < 1 := (List.getElem?_eq_some_iff.mp hx).1
    rw [show k9 = 0 by omega] at hx
    cases hx
    exact f2)
  have hP2 : va_P D cl (((X ++ va_pl L f) ++ [(H.size, .inl (cA, n.toNatClampNeg, .inr (.inr (.inr (.inr (fun i => if i < n.toNatClampNeg then some (H.size + 1 + i) else none))))))]) ++ ((List.range n.toNatClampNeg).map (fun i => H.size + 1 + i)).map (fun a => (a, .inl (cy, z)))) F.heap := hP1.app (fun k9 x hx => by
    obtain ⟨a, ha, rfl⟩ := List.mem_map.mp (List.mem_of_getElem? hx)
    obtain ⟨i, hi, rfl⟩ := List.mem_map.mp ha
    exact hrow i (List.mem_range.mp hi))
  have hD2 : va_D A (((X ++ va_pl L f) ++ [(H.size, .inl (cA, n.toNatClampNeg, .inr (.inr (.inr (.inr (fun i => if i < n.toNatClampNeg then some (H.size + 1 + i) else none))))))]) ++ ((List.range n.toNatClampNeg).map (fun i => H.size + 1 + i)).map (fun a => (a, .inl (cy, z)))) := by
    have hD1 := hD.push (e := .inl (cA, n.toNatClampNeg, .inr (.inr (.inr (.inr (fun i => if i < n.toNatClampNeg then some (H.size + 1 + i) else none)))))) hP rfl (hA _ hS.1)
    generalize hW1 : (X ++ va_pl L f) ++ [(H.size, .inl (cA, n.toNatClampNeg, .inr (.inr (.inr (.inr (fun i => if i < n.toNatClampNeg then some (H.size + 1 + i) else none))))))] = W1 at hD1 hP1 ⊢
    have hle : ∀ (k9 : Nat) (x : Nat × va_E), W1[k9]? = some x → x.1 ≤ H.size := fun k9 x hx => by
      rw [← hW1] at hx
      by_cases hl : k9 < (X ++ va_pl L f).length
      · rw [List.getElem?_append_left hl] at hx
        exact Nat.le_of_lt ((hP k9 x hx).lt)
      · rw [List.getElem?_append_right (by omega)] at hx
        have h0 : k9 - (X ++ va_pl L f).length < 1 := (List.getElem?_eq_some_iff.mp hx).1
        rw [show k9 - (X ++ va_pl L f).length = 0 by omega] at hx
        cases hx
        exact Nat.le_refl _
    have hr : ∀ (k9 : Nat) (x : Nat × va_E), (((List.range n.toNatClampNeg).map (fun i => H.size + 1 + i)).map (fun a => ((a, .inl (cy, z)) : Nat × va_E)))[k9]? = some x → x.1 = H.size + 1 + k9 := fun k9 x hx => by
      rw [List.getElem?_map, List.getElem?_map] at hx
      by_cases h9 : k9 < n.toNatClampNeg
      · rw [List.getElem?_range h9] at hx
        cases hx
        rfl
      · have hn0 : (List.range n.toNatClampNeg)[k9]? = none := List.getElem?_eq_none (by rw [List.length_range]; omega)
        rw [hn0] at hx
        cases hx
    refine ⟨fun i j x y hi hj hxy => ?_, fun k9 x hx => ?_⟩
    · by_cases h1 : i < W1.length <;> by_cases h2 : j < W1.length
      · rw [List.getElem?_append_left h1] at hi
        rw [List.getElem?_append_left h2] at hj
        exact hD1.1 i j x y hi hj hxy
      · rw [List.getElem?_append_left h1] at hi
        rw [List.getElem?_append_right (by omega)] at hj
        have := hle _ _ hi
        have := hr _ _ hj
        omega
      · rw [List.getElem?_append_right (by omega)] at hi
        rw [List.getElem?_append_left h2] at hj
        have := hle _ _ hj
        have := hr _ _ hi
        omega
      · rw [List.getElem?_append_right (by omega)] at hi hj
        have := hr _ _ hi
        have := hr _ _ hj
        omega
    · by_cases h1 : k9 < W1.length
      · rw [List.getElem?_append_left h1] at hx
        exact hD1.2 k9 x hx
      · rw [List.getElem?_append_right (by omega)] at hx
        have := hr _ _ hx
        exact hA _ (by have := hS.1; omega)
  have hAr : ArrOfT s cA (.array ty) := fun N9 z9 => by
    obtain ⟨-, k9, hk9, cm9, hkk9⟩ := (hO 0 0 0).1
    exact ⟨(fun q hq => by cases hq), k9, hk9, cm9, hkk9⟩
  have hK2 : va_K D cl (tys ++ [(cA, .array ty)]) s := ⟨hK.1, fun k9 x hx => by
    by_cases hl : k9 < tys.length
    · rw [List.getElem?_append_left hl] at hx
      exact hK.2 k9 x hx
    · rw [List.getElem?_append_right (by omega)] at hx
      have h0 : k9 - tys.length < 1 := (List.getElem?_eq_some_iff.mp hx).1
      rw [show k9 - tys.length = 0 by omega] at hx
      cases hx
      exact ⟨hAr, fA⟩⟩
  obtain ⟨t, a1, b1⟩ := kk H.size (fun i => H.size + 1 + i) cA F.heap (fun i j _ _ h => by have h9 : H.size + 1 + i = H.size + 1 + j := h; omega) hnl hK2 (by rw [← vr_rows hnm]; exact vr_lay hP2) (by rw [← vr_rows hnm]; exact vr_layD hD2) ⟨by rw [f1]; have := hS.1; omega, fun x h1 h2 => (hold x (Nat.lt_of_lt_of_le h1 hS.1)).trans (hS.2.1 x h1 h2), hS.2.2⟩ F rfl X'
  refine ⟨t, step t ?_, b1⟩
  have e : T.heap.size = H.size := by rw [hT]
  rw [e]
  exact a1
end VGM
/-! ===== END ===== -/

/-! ===== BEGIN exceptions that leave a method, and their catching by the caller (launches without stack traces) ===== -/
section VXA
/-! The laws vx_back, vx_callV, vx_callS, vx_callSW, vx_throw0, vx_throwS follow proofs of the library, with one case more: JvmDerived/Free/Laws.lean (Back.of_free), Shelf42/LK1.lean (callV, callS), Shelf/KitTraced.lean (throwNew0V, throwNewS). -/
/-- where a method has thrown q: the class by its name, the cell, what was written, the world -/
def vx_T (XC : String → State → State → Prop) (st : State) (q : Addr) (t : State) (mc ms : Nat) (free : Addr → Prop) : Prop :=
  ∃ (E : String) (ce : Cell) (L : List Loc), XC E st t ∧ t.heap[q]? = some ce ∧ ce.vm = .none ∧ st.vm.findClass E = some ce.cls ∧ st.WarmedH t.vm ∧ st.sameButNew ({ t with vm := st.vm } : State) L mc ms ∧ ∀ z ∈ L, free z.base
def vx_Q (Qc : Array Value → State → Outcome → State → Prop) (XC : String → State → State → Prop) (mc ms : Nat) (free : Addr → Prop) : Array Value → State → Outcome → State → Prop := fun a st o t =>
  (Qc a st o t ∧ ∃ L, FrameEnd st o t L mc ms ∧ ∀ q ∈ L, free q.base) ∨ ∃ q, o = .threw q ∧ vx_T XC st q t mc ms free
/-- a callee that returns or throws -/
def vx_Met (l : Launch) (y : MethodName) (ws : List Cond) (rm : Room) (Pc : Array Value → State → Prop) (Qc : Array Value → State → Outcome → State → Prop) (XC : String → State → State → Prop) (mc ms : Nat) (free : Addr → Prop) : Prop :=
  MetFree l y (headSpec ws rm) Pc (fun _ _ _ _ _ => True) (vx_Q Qc XC mc ms free)
def vx_Post (XC : String → State → State → Prop) (mc ms : Nat) (free : Addr → Prop) : Pt → Array Value → Addr → Pt → Prop := fun A a q B =>
  ∃ (g : JFrame) (mk : MethodId) (t : State) (L : List Loc) (E : String) (ce : Cell), B.U.heap = t.heap ∧ B.U.vm = t.vm ∧ XC E (A.U.calling g mk a) t ∧ t.heap[q]? = some ce ∧ ce.vm = .none ∧ A.U.vm.findClass E = some ce.cls ∧ B.locs = A.locs ++ L ∧ (∀ z ∈ L, free z.base) ∧ B.cells = A.cells + mc ∧ B.slots = A.slots + ms
def vx_Back (l : Launch) (R : Room) (p : Program) (e : Env) (below : List Frame) (s : State) (sargs : Array Value) (y : MethodName) (len W9 : Nat)
    (Pre : Pt → Array Value → Prop) (Post : Pt → Array Value → Option Value → Pt → Prop) (PostX : Pt → Array Value → Addr → Pt → Prop) : Prop :=
  ∀ (m : MethodId) (meth : Method) (c : Code) (A : Pt) (g : JFrame) (ig : Instr) (mk : MethodId) (a : Array Value),
    Stand p l e R s m sargs below meth c A.U A.locs A.cells A.slots → g.method = m → g.locals.size = c.maxLocals → decode c.code g.pc = .ok (ig, len) →
    2 * g.monitorRoom + (g.stack.map fun v => v.category).sum ≤ W9 → A.U.methodNamed? y = some mk → Pre A a →
    (∃ (v : Option Value) (B : Pt), Stand p l e R s m sargs below meth c B.U B.locs B.cells B.slots ∧ Post A a v B ∧
      Steps p.tables e below (doInvoke e (A.U.setTop g) [] mk a).1 (B.U.setTop { g with pc := g.pc + len, stack := v.toList ++ g.stack })) ∨
    (∃ (q : Addr) (B : Pt), Stand p l e R s m sargs below meth c B.U B.locs B.cells B.slots ∧ PostX A a q B ∧
      Steps p.tables e below (doInvoke e (A.U.setTop g) [] mk a).1 ((B.U.setTop g).pushFrame (.throwing q)))
section Payer
variable {l : Launch} {R : Room} {p : Program} {e : Env} {below : List Frame} {s : State} {sargs : Array Value} {y : MethodName} {len W9 : Nat}
theorem vx_back {ws : List Cond} {rm : Room} {Pc : Array Value → State → Prop} {Qc : Array Value → State → Outcome → State → Prop} {XC : String → State → State → Prop} {mc ms : Nat} {free : Addr → Prop} {bytes : ByteArray} {maxL : Nat} {ret : Option FieldType}
    (hM : vx_Met l y ws rm Pc Qc XC mc ms free) (hblind : FrameBlind Pc) (hrc : rm.cells = mc) (hrs : rm.slots = ms)
    (hframes : rm.frames + 1 ≤ R.frames) (hlocals : W9 + (maxL + 11) + rm.locals ≤ R.locals)
    (hws : ∀ w ∈ ws, ∀ a' U, s.WarmedH U.vm → w.before a' U = true) (hcode : Cond.code y bytes maxL ret ∈ ws) (hinit : ∀ a' U, s.WarmedH U.vm → (Cond.initialized y.cls).before a' U = true) :
    vx_Back l R p e below s sargs y len W9 (PreOf R mc ms Pc) (PostOf Qc mc ms free) (vx_Post XC mc ms free) := by
  intro m meth c A g ig mk a X hg hsize hdg hW hn hp
  have h1 : (headSpec ws rm).pre.before a A.U = true := atoms_intro fun w hw => hws w hw _ _ X.warmed
  have h2 : (Cond.code y bytes maxL ret).before a A.U = true := hws _ hcode _ _ X.warmed
  have h3 : (Cond.initialized y.cls).before a A.U = true := hinit _ _ X.warmed
  have h4 : A.cells + (headSpec ws rm).room.cells ≤ R.cells := by rw [show (headSpec ws rm).room.cells = mc from hrc]; exact hp.1
  have h5 : A.slots + (headSpec ws rm).room.slots ≤ R.slots := by rw [show (headSpec ws rm).room.slots = ms from hrs]; exact hp.2.1
  have hPc : Pc a (A.U.calling g mk a) := hblind _ _ _ _ hp.2.2
  obtain ⟨U, Ls, c0, s0⟩ := A
  dsimp only [Pt.U, Pt.locs, Pt.cells, Pt.slots] at h1 h2 h3 h4 h5 X hn hPc ⊢
  obtain ⟨methY, cY, hmY, hcY, -, hlY, -, -, -, -⟩ := Cond.code_spec hn h2
  obtain ⟨kY, hkY, -⟩ := className_of_methodNamed hn
  have hinitY : kY.init = .initialized := Cond.initialized_spec (findClass_of_methodNamed hn) hkY h3
  have h : At U g.method c below := by rw [hg]; exact X.here
  have hlocals9 : W9 + (maxL + 11) + (headSpec ws rm).room.locals ≤ R.locals := hlocals
  have happ : (headSpec ws rm).appliesLoose y e.platform (U.calling g mk a) = true :=
    Spec.appliesLoose_calling (g := g) h hdg hn hkY hinitY
      (X.room_calling (g := g) (R' := (headSpec ws rm).room) hsize hmY hcY hframes (by rw [hlY]; omega) h4 h5) h1
  obtain ⟨mid, hmid⟩ := h.above
  have hfr : (U.setTop g).frames = (.java g :: mid) ++ below := by rw [State.frames_setTop' g h.top, hmid]; rfl
  obtain ⟨o, s₂, hsteps, -, hend, hq⟩ := Steps.callFree hM p X.admits X.cas X.clock (acts := []) hfr happ hPc trivial
  have hq' : vx_Q Qc XC mc ms free a (U.calling g mk a) o s₂ := hq
  rw [State.frames_setTop' g h.top] at hend
  obtain ⟨g₀, hg0⟩ := Option.isSome_iff_exists.mp h.top
  obtain ⟨r, hr⟩ := State.topJava?_eq_some.mp hg0
  have hr' : (({ U with heap := s₂.heap, slotsUsed := s₂.slotsUsed } : State).setVm s₂.vm).frames = .java g₀ :: r := hr
  rcases hq' with ⟨hqc, L, hfe, hL⟩ | ⟨q, rfl, E, ce, L, hx, hce, hcv, hcl, hW₂, hsm, hL⟩
  · obtain ⟨⟨v, rfl⟩, hW₂, e2, q2, q3, q4, q5, q6⟩ := id hfe
    have e3 : s₂ = ({ (U.calling g mk a).setFrames s₂.frames with heap := s₂.heap, slotsUsed := s₂.slotsUsed } : State).setVm s₂.vm := by
      have : s₂ = ({ s₂ with vm := (U.calling g mk a).vm } : State).setVm s₂.vm := rfl
      rw [e2] at this
      exact this
    obtain ⟨c₂, i₂, len₂, hc₂, hd₂, hf₂⟩ := hend
    have hW' : U.WarmedH s₂.vm := hW₂
    have hcc : c₂ = c := by
      have h1 : s₂.code? g.method = U.code? g.method := by
        rw [State.code?_eq, State.code?_eq, hW'.alike.method?]
      exact Option.some.inj (hc₂.symm.trans (h1.trans h.code))
    subst hcc
    have hlen : len₂ = len := by rw [hdg] at hd₂; cases hd₂; rfl
    subst hlen
    have hs₂ : s₂ = (({ U with heap := s₂.heap, slotsUsed := s₂.slotsUsed } : State).setVm s₂.vm).setTop { g with pc := g.pc + len₂, stack := v.toList ++ g.stack } := by
      refine e3.trans ?_
      rw [hf₂, State.calling_eq h.top, State.setFrames_setFrames, State.setTop_of_frames _ hr', hr]
      rfl
    have hsame : U.sameButNew ({ U with heap := s₂.heap, slotsUsed := s₂.slotsUsed } : State) L mc ms := by
      refine ⟨?_, q2, q3, q4, q5, q6⟩
      obtain ⟨t, ht, -⟩ := State.frames_cons hr
      show ({ U with heap := s₂.heap, slotsUsed := s₂.slotsUsed } : State) = { U.setFrames U.frames with heap := s₂.heap, slotsUsed := s₂.slotsUsed }
      rw [State.setFrames_self ht]
    subst hg
    refine Or.inl ⟨v, ⟨(({ U with heap := s₂.heap, slotsUsed := s₂.slotsUsed } : State).setVm s₂.vm), Ls ++ L, c0 + mc, s0 + ms⟩,
      ⟨X.admits, X.cas, X.clock, X.frames, X.room, X.hears, X.method, X.code, (X.here.setHeapUsed s₂.heap s₂.slotsUsed).setVm hW'.alike, X.tail, State.WarmedH.trans X.warmed hW', X.limits, X.bytes, X.same.trans (hsame.setVm s.vm)⟩,
      ⟨g, mk, s₂, L, rfl, rfl, hqc, rfl, hL, rfl, rfl⟩, ?_⟩
    show Steps p.tables e below _ ((({ U with heap := s₂.heap, slotsUsed := s₂.slotsUsed } : State).setVm s₂.vm).setTop { g with pc := g.pc + len₂, stack := v.toList ++ g.stack })
    rw [← hs₂]
    exact hsteps
  · obtain ⟨e2, q2, q3, q4, q5, q6⟩ := id hsm
    have e3 : s₂ = ({ (U.calling g mk a).setFrames s₂.frames with heap := s₂.heap, slotsUsed := s₂.slotsUsed } : State).setVm s₂.vm := by
      have : s₂ = ({ s₂ with vm := (U.calling g mk a).vm } : State).setVm s₂.vm := rfl
      rw [e2] at this
      exact this
    have hf₂ : s₂.frames = .throwing q :: .java g :: U.frames.tail := hend
    have hW' : U.WarmedH s₂.vm := hW₂
    have hs₂ : s₂ = ((({ U with heap := s₂.heap, slotsUsed := s₂.slotsUsed } : State).setVm s₂.vm).setTop g).pushFrame (.throwing q) := by
      refine e3.trans ?_
      rw [hf₂, State.calling_eq h.top, State.setFrames_setFrames, State.pushFrame, State.frames_setTop _ hr', State.setTop_of_frames _ hr', State.setFrames_setFrames, hr]
      rfl
    have hsame : U.sameButNew ({ U with heap := s₂.heap, slotsUsed := s₂.slotsUsed } : State) L mc ms := by
      refine ⟨?_, q2, q3, q4, q5, q6⟩
      obtain ⟨t, ht, -⟩ := State.frames_cons hr
      show ({ U with heap := s₂.heap, slotsUsed := s₂.slotsUsed } : State) = { U.setFrames U.frames with heap := s₂.heap, slotsUsed := s₂.slotsUsed }
      rw [State.setFrames_self ht]
    subst hg
    refine Or.inr ⟨q, ⟨(({ U with heap := s₂.heap, slotsUsed := s₂.slotsUsed } : State).setVm s₂.vm), Ls ++ L, c0 + mc, s0 + ms⟩,
      ⟨X.admits, X.cas, X.clock, X.frames, X.room, X.hears, X.method, X.code, (X.here.setHeapUsed s₂.heap s₂.slotsUsed).setVm hW'.alike, X.tail, State.WarmedH.trans X.warmed hW', X.limits, X.bytes, X.same.trans (hsame.setVm s.vm)⟩,
      ⟨g, mk, s₂, L, E, ce, rfl, rfl, hx, hce, hcv, hcl, rfl, hL, rfl, rfl⟩, ?_⟩
    show Steps p.tables e below _ (((({ U with heap := s₂.heap, slotsUsed := s₂.slotsUsed } : State).setVm s₂.vm).setTop g).pushFrame (.throwing q))
    rw [← hs₂]
    exact hsteps
end Payer
section Calls
variable {p : Program} {l : Launch} {e : Env} {R : Room} {s : State} {m : MethodId} {args : Array Value} {below : List Frame} {meth : Method} {c : Code} {T : State} {locs : List Loc} {cells slots : Nat}
theorem vx_callV (X : Stand p l e R s m args below meth c T locs cells slots) (hexec : p.tables.exec = Jvm.exec) {own C : String} {index : Nat} {y : MethodName} {bytes : ByteArray} {maxL : Nat} {ret : Option FieldType}
    (hown : s.vm.findClass own = some m.cls) (hlink : (Cond.methodLink own index y).before args s = true) (hinst : (Cond.instanceMethod y).before args s = true) (hsel : (Cond.selects C y y).before args s = true)
    (hcode : (Cond.code y bytes maxL ret).before args s = true) (hy : y.cls ≠ "java/lang/invoke/MethodHandle" ∧ y.cls ≠ "java/lang/invoke/VarHandle")
    {W9 : Nat} {Pre : Pt → Array Value → Prop} {Post : Pt → Array Value → Option Value → Pt → Prop} {PostX : Pt → Array Value → Addr → Pt → Prop} (hK : vx_Back l R p e below s args y 3 W9 Pre Post PostX)
    {b : Addr} {cellB : Cell} (hcell : T.heap[b]? = some cellB) (hobj : cellB.vm.isStatics = false) (hcls : s.vm.findClass C = some cellB.cls)
    {g : JFrame} (hg : g.method = m) (hsize : g.locals.size = c.maxLocals) {argsL rest : List Value} (hlen : ∀ sig, parseMethodDescriptor y.desc = some sig → argsL.length = sig.parameters.length)
    (hstack : g.stack = argsL.reverse ++ .ref b :: rest) (hW : 2 * g.monitorRoom + (rest.map fun v => v.category).sum ≤ W9) (hdg : decode c.code g.pc = .ok (.invokevirtual index, 3))
    (hpre : ∀ vm₁, s.WarmedH vm₁ → Pre ⟨T.setVm vm₁, locs, cells, slots⟩ (Value.ref b :: argsL).toArray) :
    (∃ (v : Option Value) (vm₁ : Vm) (B : Pt), s.WarmedH vm₁ ∧ Stand p l e R s m args below meth c B.U B.locs B.cells B.slots ∧ Post ⟨T.setVm vm₁, locs, cells, slots⟩ (Value.ref b :: argsL).toArray v B ∧
      ∀ target, Steps p.tables e below (B.U.setTop { g with pc := g.pc + 3, stack := v.toList ++ rest }) target → Steps p.tables e below (T.setTop g) target) ∨
    (∃ (q : Addr) (vm₁ : Vm) (B : Pt), s.WarmedH vm₁ ∧ Stand p l e R s m args below meth c B.U B.locs B.cells B.slots ∧ PostX ⟨T.setVm vm₁, locs, cells, slots⟩ (Value.ref b :: argsL).toArray q B ∧
      Steps p.tables e below (T.setTop g) ((B.U.setTop { g with stack := rest }).pushFrame (.throwing q))) := by
  obtain ⟨mk, methM, hnamed, hmethM, hstM, habM⟩ := Cond.instanceMethod_spec hinst
  obtain ⟨methM', cM, hmethM', -, -, -, -, -, -, hsigM⟩ := Cond.code_spec hnamed hcode
  cases hmethM.symm.trans hmethM'
  obtain ⟨c2, r2, m2, q1, q2, q3, q4, kP, hkP, hkPi⟩ := Cond.selects_spec hsel
  cases hcls.symm.trans q1
  cases (State.methodFound?_of_named hnamed hy).symm.trans q2
  cases hnamed.symm.trans q3
  have hselP : selectMethod e.platform s.vm cellB.cls mk = .method mk := by rw [Launch.admits_selectMethod X.admits]; exact q4
  obtain ⟨vm₁, X₁, hstep₁⟩ := X.invokevirtual hexec hown hlink hnamed hmethM hstM hkP hkPi hy (a := b) (cell := cellB) hcell
    (fun z h => by rw [h] at hobj; cases hobj) hselP hmethM habM hkP hkPi (g := g) hg (argsL := argsL) (rest := rest) (hlen _ hsigM) hstack hdg
  rcases hK m meth c ⟨T.setVm vm₁, locs, cells, slots⟩ { g with stack := rest } (.invokevirtual index) mk (Value.ref b :: argsL).toArray X₁ hg hsize hdg hW (X₁.named hnamed) (hpre vm₁ X₁.warmed) with ⟨v, B, X', hpost, hsteps⟩ | ⟨q, B, X', hpost, hsteps⟩
  · exact Or.inl ⟨v, vm₁, B, X₁.warmed, X', hpost, fun target h => hstep₁ _ fun acts => by rw [doInvoke_state]; exact hsteps.trans h⟩
  · exact Or.inr ⟨q, vm₁, B, X₁.warmed, X', hpost, hstep₁ _ fun acts => by rw [doInvoke_state]; exact hsteps⟩
theorem vx_callS (X : Stand p l e R s m args below meth c T locs cells slots) (hexec : p.tables.exec = Jvm.exec) {own : String} {index : Nat} {y : MethodName} {bytes : ByteArray} {maxL : Nat} {ret : Option FieldType}
    (hown : s.vm.findClass own = some m.cls) (hlink : (Cond.methodLink own index y).before args s = true) (hstat : (Cond.static y).before args s = true) (hinit : (Cond.initialized y.cls).before args s = true)
    (hcode : (Cond.code y bytes maxL ret).before args s = true) (hy : y.cls ≠ "java/lang/invoke/MethodHandle" ∧ y.cls ≠ "java/lang/invoke/VarHandle")
    {W9 : Nat} {Pre : Pt → Array Value → Prop} {Post : Pt → Array Value → Option Value → Pt → Prop} {PostX : Pt → Array Value → Addr → Pt → Prop} (hK : vx_Back l R p e below s args y 3 W9 Pre Post PostX)
    {g : JFrame} (hg : g.method = m) (hsize : g.locals.size = c.maxLocals) {argsL rest : List Value} (hlen : ∀ sig, parseMethodDescriptor y.desc = some sig → argsL.length = sig.parameters.length)
    (hstack : g.stack = argsL.reverse ++ rest) (hW : 2 * g.monitorRoom + (rest.map fun v => v.category).sum ≤ W9) (hdg : decode c.code g.pc = .ok (.invokestatic index, 3))
    (hpre : ∀ vm₁, s.WarmedH vm₁ → Pre ⟨T.setVm vm₁, locs, cells, slots⟩ argsL.toArray) :
    (∃ (v : Option Value) (vm₁ : Vm) (B : Pt), s.WarmedH vm₁ ∧ Stand p l e R s m args below meth c B.U B.locs B.cells B.slots ∧ Post ⟨T.setVm vm₁, locs, cells, slots⟩ argsL.toArray v B ∧
      ∀ target, Steps p.tables e below (B.U.setTop { g with pc := g.pc + 3, stack := v.toList ++ rest }) target → Steps p.tables e below (T.setTop g) target) ∨
    (∃ (q : Addr) (vm₁ : Vm) (B : Pt), s.WarmedH vm₁ ∧ Stand p l e R s m args below meth c B.U B.locs B.cells B.slots ∧ PostX ⟨T.setVm vm₁, locs, cells, slots⟩ argsL.toArray q B ∧
      Steps p.tables e below (T.setTop g) ((B.U.setTop { g with stack := rest }).pushFrame (.throwing q))) := by
  obtain ⟨mk, hnamed⟩ := Cond.code_named hcode
  obtain ⟨methM, cM, hmethM, -, -, -, -, -, -, hsigM⟩ := Cond.code_spec hnamed hcode
  have hstatic : methM.isStatic = true := Cond.static_spec hnamed hmethM hstat
  obtain ⟨kP, hkP, -⟩ := className_of_methodNamed hnamed
  have hinitP : kP.init = .initialized := Cond.initialized_spec (findClass_of_methodNamed hnamed) hkP hinit
  obtain ⟨vm₁, X₁, hstep₁⟩ := X.invokestatic hexec hown hlink hnamed hmethM hstatic hkP hinitP hy (g := g) hg (argsL := argsL) (rest := rest) (hlen _ hsigM) hstack hdg
  rcases hK m meth c ⟨T.setVm vm₁, locs, cells, slots⟩ { g with stack := rest } (.invokestatic index) mk argsL.toArray X₁ hg hsize hdg hW (X₁.named hnamed) (hpre vm₁ X₁.warmed) with ⟨v, B, X', hpost, hsteps⟩ | ⟨q, B, X', hpost, hsteps⟩
  · exact Or.inl ⟨v, vm₁, B, X₁.warmed, X', hpost, fun target h => hstep₁ _ fun acts => by rw [doInvoke_state]; exact hsteps.trans h⟩
  · exact Or.inr ⟨q, vm₁, B, X₁.warmed, X', hpost, hstep₁ _ fun acts => by rw [doInvoke_state]; exact hsteps⟩
end Calls
theorem vx_cls {s : State} {T : State} {vm₁ : Vm} {E : String} {k : ClassId} (hW : s.WarmedH vm₁) (h : (T.setVm vm₁).vm.findClass E = some k) : s.vm.findClass E = some k := by
  have h1 : vm₁.findClass E = some k := h
  rw [hW.alike.findClass] at h1
  exact h1
/-- the method's frame g, with q thrown over it -/
def vx_W (p : Program) (l : Launch) (e : Env) (R : Room) (s : State) (m : MethodId) (args : Array Value) (below : List Frame) (meth : Method) (c : Code) (H : Heap) (locs : List Loc) (cells slots : Nat) (Q : State → Prop) (g : JFrame) (q : Addr) : Prop :=
  ∀ T : State, T.heap = H → Stand p l e R s m args below meth c T locs cells slots → ∃ t, Steps p.tables e below ((T.setTop g).pushFrame (.throwing q)) t ∧ Q t
def vx_Run (p : Program) (l : Launch) (e : Env) (R : Room) (s : State) (m : MethodId) (args : Array Value) (below : List Frame) (meth : Method) (c : Code) (H : Heap) (locs : List Loc) (cells slots mc ms : Nat) (g : JFrame) (rest : List Value) (Qa : State → Outcome → State → Prop) (XC : String → State → State → Prop) (free : Addr → Prop) : Prop :=
  ∀ T : State, T.heap = H → Stand p l e R s m args below meth c T locs cells slots →
    (∃ (v : Option Value) (st₀ t T' : State) (L : List Loc), st₀.heap = H ∧ Stand p l e R s m args below meth c T' (locs ++ L) (cells + mc) (slots + ms) ∧ (∀ q ∈ L, free q.base) ∧ T'.heap = t.heap ∧ T'.vm = t.vm ∧ Qa st₀ (.returned v) t ∧
      Goes p e below T g T' { g with pc := g.pc + 3, stack := v.toList ++ rest }) ∨
    (∃ (q : Addr) (st₀ t T' : State) (L : List Loc) (E : String) (ce : Cell), st₀.heap = H ∧ Stand p l e R s m args below meth c T' (locs ++ L) (cells + mc) (slots + ms) ∧ (∀ z ∈ L, free z.base) ∧ T'.heap = t.heap ∧ T'.vm = t.vm ∧ XC E st₀ t ∧ t.heap[q]? = some ce ∧ ce.vm = .none ∧ s.vm.findClass E = some ce.cls ∧
      Steps p.tables e below (T.setTop g) ((T'.setTop { g with stack := rest }).pushFrame (.throwing q)))
def vx_X {S : Type} (px : S → Prop) (B : String → S → State → Prop) (A : Nat → Prop) : String → State → State → Prop := fun E st t => ∃ u : S, px u ∧ B E u t ∧ va_F A st t
section Runs
variable {p : Program} {l : Launch} {e : Env} {R : Room} {s : State} {m : MethodId} {args : Array Value} {below : List Frame} {meth : Method} {c : Code} {H : Heap} {locs : List Loc} {cells slots : Nat}
variable {y : MethodName} {bytes cc : ByteArray} {maxL nL mc ms n index : Nat} {ret : Option FieldType} {ws : List Cond} {rm : Room} {Pc : Array Value → State → Prop} {Qc : Array Value → State → Outcome → State → Prop} {XC : String → State → State → Prop} {free : Addr → Prop} {Ts : List Cond} {own C : String} {b : Addr} {As rest : List Value} {g : JFrame}
theorem vx_callBack (cb : CallB R s args own index y bytes maxL ret ws rm mc ms n) (hM : vx_Met l y ws rm Pc Qc XC mc ms free) (hbl : FrameBlind Pc) : vx_Back l R p e below s args y 3 8 (PreOf R mc ms Pc) (PostOf Qc mc ms free) (vx_Post XC mc ms free) := by
  obtain ⟨hrc, hrs, hfr, hlo, hws, hcw, -, hini, -⟩ := cb
  exact vx_back (bytes := bytes) (maxL := maxL) (ret := ret) hM hbl hrc hrs hfr hlo hws hcw (fun a' U hW => word_at hW (Or.inl (by first | rfl | simp [Cond.onTables, Cond.keeps, Cond.steady])) hini)
theorem vx_runV (S : CallFix p m c cc nL s args Ts own) (hM : vx_Met l y ws rm Pc Qc XC mc ms free) (cw : CallW R s args own C index y bytes maxL ret ws rm mc ms n) (hp : PreV s H C b Pc As)
    (hg : g.method = m) (hn : As.length = n) (hsize : g.locals.size = nL) (hstack : g.stack = As.reverse ++ .ref b :: rest) (hW : 2 * g.monitorRoom + (rest.map fun v => v.category).sum ≤ 8) (hdg : decode cc g.pc = .ok (.invokevirtual index, 3)) (hf : cells + mc ≤ R.cells ∧ slots + ms ≤ R.slots) :
    vx_Run p l e R s m args below meth c H locs cells slots mc ms g rest (Qc (Value.ref b :: As).toArray) XC free := by
  have hK : vx_Back l R p e below s args y 3 8 (PreOf R mc ms Pc) (PostOf Qc mc ms free) (vx_Post XC mc ms free) := vx_callBack cw.1 hM hp.1
  obtain ⟨⟨-, -, -, -, -, -, hcode, -, hy, hlen, hl⟩, hin, hse⟩ := cw
  obtain ⟨hx, hb, hml, ho, -⟩ := S
  obtain ⟨-, ⟨cellB, hcB, hoB, hclB⟩, hPc⟩ := hp
  intro T hT X
  rcases vx_callV X hx (C := C) (bytes := bytes) (maxL := maxL) (ret := ret) ho hl hin hse hcode hy hK (by rw [hT]; exact hcB) hoB hclB hg (hsize.trans hml.symm) (argsL := As) (rest := rest) (fun sig h => hn.trans (hlen sig h)) hstack hW (by rw [hb]; exact hdg)
    (fun vm₁ hW₁ => ⟨hf.1, hf.2, hPc (T.setVm vm₁) hT hW₁⟩) with ⟨v, vm₁, ⟨U', l2, c2, s2⟩, hW₁, X', ⟨g', mk, t, L, e1, e2, hq, h1, hL, h2, h3⟩, st⟩ | ⟨q, vm₁, ⟨U', l2, c2, s2⟩, hW₁, X', ⟨g', mk, t, L, E, ce, e1, e2, hq, hce, hcv, hcl, h1, hL, h2, h3⟩, st⟩
  · dsimp only [Pt.U, Pt.locs, Pt.cells, Pt.slots] at X' e1 e2 h1 h2 h3 st
    subst h1; subst h2; subst h3
    exact Or.inl ⟨v, (T.setVm vm₁).calling g' mk (Value.ref b :: As).toArray, t, U', L, hT, X', hL, e1, e2, hq, st⟩
  · dsimp only [Pt.U, Pt.locs, Pt.cells, Pt.slots] at X' e1 e2 h1 h2 h3 st hcl
    subst h1; subst h2; subst h3
    exact Or.inr ⟨q, (T.setVm vm₁).calling g' mk (Value.ref b :: As).toArray, t, U', L, E, ce, hT, X', hL, e1, e2, hq, hce, hcv, vx_cls hW₁ hcl, st⟩
theorem vx_runS (S : CallFix p m c cc nL s args Ts own) (hM : vx_Met l y ws rm Pc Qc XC mc ms free) (cw : CallB R s args own index y bytes maxL ret ws rm mc ms n ∧ (Cond.static y).before args s = true) (hp : PreS s H Pc As)
    (hg : g.method = m) (hn : As.length = n) (hsize : g.locals.size = nL) (hstack : g.stack = As.reverse ++ rest) (hW : 2 * g.monitorRoom + (rest.map fun v => v.category).sum ≤ 8) (hdg : decode cc g.pc = .ok (.invokestatic index, 3)) (hf : cells + mc ≤ R.cells ∧ slots + ms ≤ R.slots) :
    vx_Run p l e R s m args below meth c H locs cells slots mc ms g rest (Qc As.toArray) XC free := by
  have hK : vx_Back l R p e below s args y 3 8 (PreOf R mc ms Pc) (PostOf Qc mc ms free) (vx_Post XC mc ms free) := vx_callBack cw.1 hM hp.1
  obtain ⟨⟨-, -, -, -, -, -, hcode, hini, hy, hlen, hl⟩, hstt⟩ := cw
  obtain ⟨hx, hb, hml, ho, -⟩ := S
  intro T hT X
  rcases vx_callS X hx (bytes := bytes) (maxL := maxL) (ret := ret) ho hl hstt hini hcode hy hK hg (hsize.trans hml.symm) (argsL := As) (rest := rest) (fun sig h => hn.trans (hlen sig h)) hstack hW (by rw [hb]; exact hdg)
    (fun vm₁ hW₁ => ⟨hf.1, hf.2, hp.2 (T.setVm vm₁) hT hW₁⟩) with ⟨v, vm₁, ⟨U', l2, c2, s2⟩, hW₁, X', ⟨g', mk, t, L, e1, e2, hq, h1, hL, h2, h3⟩, st⟩ | ⟨q, vm₁, ⟨U', l2, c2, s2⟩, hW₁, X', ⟨g', mk, t, L, E, ce, e1, e2, hq, hce, hcv, hcl, h1, hL, h2, h3⟩, st⟩
  · dsimp only [Pt.U, Pt.locs, Pt.cells, Pt.slots] at X' e1 e2 h1 h2 h3 st
    subst h1; subst h2; subst h3
    exact Or.inl ⟨v, (T.setVm vm₁).calling g' mk As.toArray, t, U', L, hT, X', hL, e1, e2, hq, st⟩
  · dsimp only [Pt.U, Pt.locs, Pt.cells, Pt.slots] at X' e1 e2 h1 h2 h3 st hcl
    subst h1; subst h2; subst h3
    exact Or.inr ⟨q, (T.setVm vm₁).calling g' mk As.toArray, t, U', L, E, ce, hT, X', hL, e1, e2, hq, hce, hcv, vx_cls hW₁ hcl, st⟩
end Runs
section Rows
variable {p : Program} {l : Launch} {e : Env} {R : Room} {s : State} {m : MethodId} {args : Array Value} {below : List Frame} {meth : Method} {c : Code} {H : Heap} {locs : List Loc} {cells slots : Nat} {Q : State → Prop}
variable {mc ms : Nat} {free : Addr → Prop} {A0 A1 : Nat → Prop} {H0 : Heap} {a : Array Value} {pc : Nat} {ls : Array Slot} {st0 rest : List Value}
theorem vx_keep {st₀ t T' : State} {L : List Loc} (h0 : st₀.heap = H) (e1 : T'.heap = t.heap) (hS : va_S A0 H0 H locs) (hA : ∀ q, q < H.size → A1 q → A0 q) (hf : ∀ q, free q → A0 q) (hL : ∀ q ∈ L, free q.base) (hF : va_F A1 st₀ t) :
    H.size ≤ T'.heap.size ∧ (∀ q : Nat, q < H.size → ¬ A1 q → T'.heap[q]? = H[q]?) ∧ va_S A0 H0 T'.heap (locs ++ L) := by
  obtain ⟨hz, hk⟩ := hF
  rw [h0] at hz hk
  exact ⟨by rw [e1]; exact hz, fun q h1 h2 => by rw [e1]; exact hk q h1 h2,
    ⟨Nat.le_trans hS.1 (by rw [e1]; exact hz), fun q h1 h2 => by rw [e1, hk q (Nat.lt_of_lt_of_le h1 hS.1) (fun z => h2 (hA q (Nat.lt_of_lt_of_le h1 hS.1) z))]; exact hS.2.1 q h1 h2, fun q hq => by
      rcases List.mem_append.mp hq with h | h
      · exact hS.2.2 q h
      · exact hf _ (hL q h)⟩⟩
theorem vx_calli {S SX : Type} {post : Int32 → S → Prop} {px : SX → Prop} {B : S → State → Prop} {BX : String → SX → State → Prop} {AX : Nat → Prop} (hr : vx_Run p l e R s m args below meth c H locs cells slots mc ms (F0 m pc ls st0) rest (va_Qi post B A1 a) (vx_X px BX AX) free) (hS : va_S A0 H0 H locs) (hA : ∀ q, q < H.size → A1 q → A0 q) (hf : ∀ q, free q → A0 q) (hAX : ∀ q, q < H.size → AX q → A0 q)
    (kx : ∀ (E : String) (ce : Cell) (q9 : Addr) (u : SX) (t : State) (H1 : Heap) (locs1 : List Loc), t.heap = H1 → s.vm.Alike t.vm → px u → BX E u t → H.size ≤ H1.size → (∀ q : Nat, q < H.size → ¬ AX q → H1[q]? = H[q]?) → va_S A0 H0 H1 locs1 → H1[q9]? = some ce → ce.vm = .none → s.vm.findClass E = some ce.cls → vx_W p l e R s m args below meth c H1 locs1 (cells + mc) (slots + ms) Q (F0 m pc ls rest) q9)
    (kk : ∀ (r : Int32) (u : S) (t : State) (H1 : Heap) (locs1 : List Loc), t.heap = H1 → s.vm.Alike t.vm → post r u → B u t → H.size ≤ H1.size → (∀ q : Nat, q < H.size → ¬ A1 q → H1[q]? = H[q]?) → va_S A0 H0 H1 locs1 → W p l e R s m args below meth c H1 locs1 (cells + mc) (slots + ms) Q (F0 m (pc + 3) ls (.int r :: rest))) : W p l e R s m args below meth c H locs cells slots Q (F0 m pc ls st0) := by
  intro T hT X
  rcases hr T hT X with ⟨v, st₀, t, T', L, h0, X', hL, e1, e2, ⟨⟨r, u, hv, hp, hb⟩, hF⟩, st⟩ | ⟨q, st₀, t, T', L, E, ce, h0, X', hL, e1, e2, ⟨u, hp, hb, hF⟩, hce, hcv, hcl, st⟩
  · cases hv
    obtain ⟨k1, k2, k3⟩ := vx_keep h0 e1 hS hA hf hL hF
    obtain ⟨t2, a1, b1⟩ := kk r u t T'.heap (locs ++ L) e1.symm (by rw [← e2]; exact X'.warmed.alike) hp hb k1 k2 k3 T' rfl X'
    exact ⟨t2, st t2 a1, b1⟩
  · obtain ⟨k1, k2, k3⟩ := vx_keep h0 e1 hS hAX hf hL hF
    obtain ⟨t2, a1, b1⟩ := kx E ce q u t T'.heap (locs ++ L) e1.symm (by rw [← e2]; exact X'.warmed.alike) hp hb k1 k2 k3 (by rw [e1]; exact hce) hcv hcl T' rfl X'
    exact ⟨t2, st.trans a1, b1⟩
theorem vx_calll {S SX : Type} {post : Int64 → S → Prop} {px : SX → Prop} {B : S → State → Prop} {BX : String → SX → State → Prop} {AX : Nat → Prop} (hr : vx_Run p l e R s m args below meth c H locs cells slots mc ms (F0 m pc ls st0) rest (va_Ql post B A1 a) (vx_X px BX AX) free) (hS : va_S A0 H0 H locs) (hA : ∀ q, q < H.size → A1 q → A0 q) (hf : ∀ q, free q → A0 q) (hAX : ∀ q, q < H.size → AX q → A0 q)
    (kx : ∀ (E : String) (ce : Cell) (q9 : Addr) (u : SX) (t : State) (H1 : Heap) (locs1 : List Loc), t.heap = H1 → s.vm.Alike t.vm → px u → BX E u t → H.size ≤ H1.size → (∀ q : Nat, q < H.size → ¬ AX q → H1[q]? = H[q]?) → va_S A0 H0 H1 locs1 → H1[q9]? = some ce → ce.vm = .none → s.vm.findClass E = some ce.cls → vx_W p l e R s m args below meth c H1 locs1 (cells + mc) (slots + ms) Q (F0 m pc ls rest) q9)
    (kk : ∀ (r : Int64) (u : S) (t : State) (H1 : Heap) (locs1 : List Loc), t.heap = H1 → s.vm.Alike t.vm → post r u → B u t → H.size ≤ H1.size → (∀ q : Nat, q < H.size → ¬ A1 q → H1[q]? = H[q]?) → va_S A0 H0 H1 locs1 → W p l e R s m args below meth c H1 locs1 (cells + mc) (slots + ms) Q (F0 m (pc + 3) ls (.long r :: rest))) : W p l e R s m args below meth c H locs cells slots Q (F0 m pc ls st0) := by
  intro T hT X
  rcases hr T hT X with ⟨v, st₀, t, T', L, h0, X', hL, e1, e2, ⟨⟨r, u, hv, hp, hb⟩, hF⟩, st⟩ | ⟨q, st₀, t, T', L, E, ce, h0, X', hL, e1, e2, ⟨u, hp, hb, hF⟩, hce, hcv, hcl, st⟩
  · cases hv
    obtain ⟨k1, k2, k3⟩ := vx_keep h0 e1 hS hA hf hL hF
    obtain ⟨t2, a1, b1⟩ := kk r u t T'.heap (locs ++ L) e1.symm (by rw [← e2]; exact X'.warmed.alike) hp hb k1 k2 k3 T' rfl X'
    exact ⟨t2, st t2 a1, b1⟩
  · obtain ⟨k1, k2, k3⟩ := vx_keep h0 e1 hS hAX hf hL hF
    obtain ⟨t2, a1, b1⟩ := kx E ce q u t T'.heap (locs ++ L) e1.symm (by rw [← e2]; exact X'.warmed.alike) hp hb k1 k2 k3 (by rw [e1]; exact hce) hcv hcl T' rfl X'
    exact ⟨t2, st.trans a1, b1⟩
theorem vx_callf {S SX : Type} {post : UInt32 → S → Prop} {px : SX → Prop} {B : S → State → Prop} {BX : String → SX → State → Prop} {AX : Nat → Prop} (hr : vx_Run p l e R s m args below meth c H locs cells slots mc ms (F0 m pc ls st0) rest (va_Qf post B A1 a) (vx_X px BX AX) free) (hS : va_S A0 H0 H locs) (hA : ∀ q, q < H.size → A1 q → A0 q) (hf : ∀ q, free q → A0 q) (hAX : ∀ q, q < H.size → AX q → A0 q)
    (kx : ∀ (E : String) (ce : Cell) (q9 : Addr) (u : SX) (t : State) (H1 : Heap) (locs1 : List Loc), t.heap = H1 → s.vm.Alike t.vm → px u → BX E u t → H.size ≤ H1.size → (∀ q : Nat, q < H.size → ¬ AX q → H1[q]? = H[q]?) → va_S A0 H0 H1 locs1 → H1[q9]? = some ce → ce.vm = .none → s.vm.findClass E = some ce.cls → vx_W p l e R s m args below meth c H1 locs1 (cells + mc) (slots + ms) Q (F0 m pc ls rest) q9)
    (kk : ∀ (r : UInt32) (u : S) (t : State) (H1 : Heap) (locs1 : List Loc), t.heap = H1 → s.vm.Alike t.vm → post r u → B u t → H.size ≤ H1.size → (∀ q : Nat, q < H.size → ¬ A1 q → H1[q]? = H[q]?) → va_S A0 H0 H1 locs1 → W p l e R s m args below meth c H1 locs1 (cells + mc) (slots + ms) Q (F0 m (pc + 3) ls (.float r :: rest))) : W p l e R s m args below meth c H locs cells slots Q (F0 m pc ls st0) := by
  intro T hT X
  rcases hr T hT X with ⟨v, st₀, t, T', L, h0, X', hL, e1, e2, ⟨⟨r, u, hv, hp, hb⟩, hF⟩, st⟩ | ⟨q, st₀, t, T', L, E, ce, h0, X', hL, e1, e2, ⟨u, hp, hb, hF⟩, hce, hcv, hcl, st⟩
  · cases hv
    obtain ⟨k1, k2, k3⟩ := vx_keep h0 e1 hS hA hf hL hF
    obtain ⟨t2, a1, b1⟩ := kk r u t T'.heap (locs ++ L) e1.symm (by rw [← e2]; exact X'.warmed.alike) hp hb k1 k2 k3 T' rfl X'
    exact ⟨t2, st t2 a1, b1⟩
  · obtain ⟨k1, k2, k3⟩ := vx_keep h0 e1 hS hAX hf hL hF
    obtain ⟨t2, a1, b1⟩ := kx E ce q u t T'.heap (locs ++ L) e1.symm (by rw [← e2]; exact X'.warmed.alike) hp hb k1 k2 k3 (by rw [e1]; exact hce) hcv hcl T' rfl X'
    exact ⟨t2, st.trans a1, b1⟩
theorem vx_calld {S SX : Type} {post : UInt64 → S → Prop} {px : SX → Prop} {B : S → State → Prop} {BX : String → SX → State → Prop} {AX : Nat → Prop} (hr : vx_Run p l e R s m args below meth c H locs cells slots mc ms (F0 m pc ls st0) rest (va_Qd post B A1 a) (vx_X px BX AX) free) (hS : va_S A0 H0 H locs) (hA : ∀ q, q < H.size → A1 q → A0 q) (hf : ∀ q, free q → A0 q) (hAX : ∀ q, q < H.size → AX q → A0 q)
    (kx : ∀ (E : String) (ce : Cell) (q9 : Addr) (u : SX) (t : State) (H1 : Heap) (locs1 : List Loc), t.heap = H1 → s.vm.Alike t.vm → px u → BX E u t → H.size ≤ H1.size → (∀ q : Nat, q < H.size → ¬ AX q → H1[q]? = H[q]?) → va_S A0 H0 H1 locs1 → H1[q9]? = some ce → ce.vm = .none → s.vm.findClass E = some ce.cls → vx_W p l e R s m args below meth c H1 locs1 (cells + mc) (slots + ms) Q (F0 m pc ls rest) q9)
    (kk : ∀ (r : UInt64) (u : S) (t : State) (H1 : Heap) (locs1 : List Loc), t.heap = H1 → s.vm.Alike t.vm → post r u → B u t → H.size ≤ H1.size → (∀ q : Nat, q < H.size → ¬ A1 q → H1[q]? = H[q]?) → va_S A0 H0 H1 locs1 → W p l e R s m args below meth c H1 locs1 (cells + mc) (slots + ms) Q (F0 m (pc + 3) ls (.double r :: rest))) : W p l e R s m args below meth c H locs cells slots Q (F0 m pc ls st0) := by
  intro T hT X
  rcases hr T hT X with ⟨v, st₀, t, T', L, h0, X', hL, e1, e2, ⟨⟨r, u, hv, hp, hb⟩, hF⟩, st⟩ | ⟨q, st₀, t, T', L, E, ce, h0, X', hL, e1, e2, ⟨u, hp, hb, hF⟩, hce, hcv, hcl, st⟩
  · cases hv
    obtain ⟨k1, k2, k3⟩ := vx_keep h0 e1 hS hA hf hL hF
    obtain ⟨t2, a1, b1⟩ := kk r u t T'.heap (locs ++ L) e1.symm (by rw [← e2]; exact X'.warmed.alike) hp hb k1 k2 k3 T' rfl X'
    exact ⟨t2, st t2 a1, b1⟩
  · obtain ⟨k1, k2, k3⟩ := vx_keep h0 e1 hS hAX hf hL hF
    obtain ⟨t2, a1, b1⟩ := kx E ce q u t T'.heap (locs ++ L) e1.symm (by rw [← e2]; exact X'.warmed.alike) hp hb k1 k2 k3 (by rw [e1]; exact hce) hcv hcl T' rfl X'
    exact ⟨t2, st.trans a1, b1⟩
theorem vx_callv {S SX : Type} {post : S → Prop} {px : SX → Prop} {B : S → State → Prop} {BX : String → SX → State → Prop} {AX : Nat → Prop} (hr : vx_Run p l e R s m args below meth c H locs cells slots mc ms (F0 m pc ls st0) rest (va_Qv post B A1 a) (vx_X px BX AX) free) (hS : va_S A0 H0 H locs) (hA : ∀ q, q < H.size → A1 q → A0 q) (hf : ∀ q, free q → A0 q) (hAX : ∀ q, q < H.size → AX q → A0 q)
    (kx : ∀ (E : String) (ce : Cell) (q9 : Addr) (u : SX) (t : State) (H1 : Heap) (locs1 : List Loc), t.heap = H1 → s.vm.Alike t.vm → px u → BX E u t → H.size ≤ H1.size → (∀ q : Nat, q < H.size → ¬ AX q → H1[q]? = H[q]?) → va_S A0 H0 H1 locs1 → H1[q9]? = some ce → ce.vm = .none → s.vm.findClass E = some ce.cls → vx_W p l e R s m args below meth c H1 locs1 (cells + mc) (slots + ms) Q (F0 m pc ls rest) q9)
    (kk : ∀ (u : S) (t : State) (H1 : Heap) (locs1 : List Loc), t.heap = H1 → s.vm.Alike t.vm → post u → B u t → H.size ≤ H1.size → (∀ q : Nat, q < H.size → ¬ A1 q → H1[q]? = H[q]?) → va_S A0 H0 H1 locs1 → W p l e R s m args below meth c H1 locs1 (cells + mc) (slots + ms) Q (F0 m (pc + 3) ls (rest))) : W p l e R s m args below meth c H locs cells slots Q (F0 m pc ls st0) := by
  intro T hT X
  rcases hr T hT X with ⟨v, st₀, t, T', L, h0, X', hL, e1, e2, ⟨⟨u, hv, hp, hb⟩, hF⟩, st⟩ | ⟨q, st₀, t, T', L, E, ce, h0, X', hL, e1, e2, ⟨u, hp, hb, hF⟩, hce, hcv, hcl, st⟩
  · cases hv
    obtain ⟨k1, k2, k3⟩ := vx_keep h0 e1 hS hA hf hL hF
    obtain ⟨t2, a1, b1⟩ := kk u t T'.heap (locs ++ L) e1.symm (by rw [← e2]; exact X'.warmed.alike) hp hb k1 k2 k3 T' rfl X'
    exact ⟨t2, st t2 a1, b1⟩
  · obtain ⟨k1, k2, k3⟩ := vx_keep h0 e1 hS hAX hf hL hF
    obtain ⟨t2, a1, b1⟩ := kx E ce q u t T'.heap (locs ++ L) e1.symm (by rw [← e2]; exact X'.warmed.alike) hp hb k1 k2 k3 (by rw [e1]; exact hce) hcv hcl T' rfl X'
    exact ⟨t2, st.trans a1, b1⟩
/-- caught by the row x of this method's table; the rows ahead don't take it -/
theorem vx_catch {own name : String} {E : String} {ce : Cell} {q : Addr} (hown : s.vm.findClass own = some m.cls) (pre : List ExceptionTableEntry) (x : ExceptionTableEntry) (suf : List ExceptionTableEntry) (hsplit : c.exceptionTable.toList = pre ++ x :: suf)
    (hpass : ∀ z ∈ pre, covers z pc = false ∨ (z.catchType ≠ 0 ∧ ∃ nm : String, (Cond.classLink own z.catchType nm).before args s = true ∧ va_Nc E nm s)) (hx : covers x pc = true) (h0 : x.catchType ≠ 0)
    (hlink : (Cond.classLink own x.catchType name).before args s = true) (hcast : (Cond.castable E name).before args s = true) (hcell : H[q]? = some ce) (hv : ce.vm = .none) (hcl : s.vm.findClass E = some ce.cls)
    (kk : W p l e R s m args below meth c H locs cells slots Q (F0 m x.handlerPc ls [.ref q])) : vx_W p l e R s m args below meth c H locs cells slots Q (F0 m pc ls rest) q := by
  intro T hT X
  have hpl : e.platform.magicAccessors = ({} : Platform).magicAccessors := by rw [X.admits.platform]
  obtain ⟨c3, c4, hc3, hc4, hasg⟩ := Cond.castable_spec hcast
  cases Option.some.inj (hc3.symm.trans hcl)
  obtain ⟨c5, hc5, hcl5⟩ := Cond.classLink_spec hown hlink e.platform hpl
  cases Option.some.inj (hc4.symm.trans hc5)
  obtain ⟨vm', X', st⟩ := X.thenCaughtThrough q (g := F0 m pc ls rest) rfl (Steps.refl _) (by rw [hT]; exact hcell) (by rw [hv]; rfl) (by obtain ⟨k9, h9, -⟩ := Vm.findClass_spec hcl; exact ⟨k9, h9⟩) pre x suf hsplit
    (fun z hz => by
      rcases hpass z hz with h | ⟨hz0, nm, hl1, hn1⟩
      · exact Or.inl h
      · obtain ⟨c6, hc6, hcl6⟩ := Cond.classLink_spec hown hl1 e.platform hpl
        obtain ⟨a8, b8, h1, h2, h3⟩ := hn1
        cases Option.some.inj (h1.symm.trans hcl)
        cases Option.some.inj (h2.symm.trans hc6)
        exact Or.inr ⟨hz0, _, hcl6, h3⟩) hx (Or.inr ⟨h0, c4, hcl5, hasg⟩)
  obtain ⟨t, a1, b1⟩ := kk (T.setVm vm') hT X'
  exact ⟨t, st.trans a1, b1⟩
end Rows
section Ends
variable {p : Program} {l : Launch} {e : Env} {R : Room} {s : State} {m : MethodId} {args : Array Value} {below : List Frame} {meth : Method} {c : Code} {H : Heap} {locs : List Loc} {cells slots : Nat} {Q : State → Prop}
variable {mc ms : Nat} {free : Addr → Prop} {A0 A1 : Nat → Prop} {H0 : Heap} {a : Array Value} {ls : Array Slot} {st0 rest : List Value}
variable {Qc : Array Value → State → Outcome → State → Prop} {XC : String → State → State → Prop}
/-- what a body that may throw owes at its end -/
def vx_MQ (below : List Frame) (Qc : Array Value → State → Outcome → State → Prop) (XC : String → State → State → Prop) (a : Array Value) (s : State) (mc ms : Nat) (free : Addr → Prop) : State → Prop := fun t =>
  ∃ o, t.status = .running ∧ Ended t below o ∧ vx_Q Qc XC mc ms free a s o t
theorem vx_ret {g : JFrame} {mc ms : Nat} (k : W p l e R s m args below meth c H locs cells slots (MQ below Qc args s mc ms free) g) : W p l e R s m args below meth c H locs cells slots (vx_MQ below Qc XC args s mc ms free) g := by
  intro T hT X
  obtain ⟨t, a1, o, b1, b2, b3, b4⟩ := k T hT X
  exact ⟨t, a1, o, b1, b2, Or.inl ⟨b3, b4⟩⟩
/-- not caught here: it goes on to the caller -/
theorem vx_widen {g : JFrame} {q : Addr} {k n : Nat} (h1 : cells ≤ k) (h2 : slots ≤ n) (kk : vx_W p l e R s m args below meth c H locs k n Q g q) : vx_W p l e R s m args below meth c H locs cells slots Q g q := fun T hT X => kk T hT (stand_widen X h1 h2)
theorem vx_out {pc : Nat} {E : String} {ce : Cell} {q : Addr} {mc ms : Nat} (hout : ∀ x ∈ c.exceptionTable.toList, covers x pc = false) (hlocks : meth.locks = false) (hcell : H[q]? = some ce) (hv : ce.vm = .none) (hcl : s.vm.findClass E = some ce.cls)
    (hx : ∀ t : State, t.heap = H → s.vm.Alike t.vm → XC E s t) (hf : ∀ z ∈ locs, free z.base) (hc : cells ≤ mc) (hs : slots ≤ ms) :
    vx_W p l e R s m args below meth c H locs cells slots (vx_MQ below Qc XC args s mc ms free) (F0 m pc ls rest) q := by
  intro T hT X
  obtain ⟨st1, hrun, hend, hW, hsm⟩ := X.leaveThrown q (g := F0 m pc ls rest) rfl rfl rfl hout hlocks
  have hcell9 : (T.setFrames (.throwing q :: below)).heap[q]? = some ce := by
    show T.heap[q]? = some ce
    rw [hT]; exact hcell
  exact ⟨_, st1, .threw q, hrun, hend, Or.inr ⟨q, rfl, E, ce, locs, hx _ hT hW.alike, hcell9, hv, hcl, hW, hsm.mono hc hs, hf⟩⟩
theorem vx_frame {U : State} {k n : Nat} (h : s.sameButNew ({ U with vm := s.vm } : State) locs k n) : s.heap.size ≤ U.heap.size ∧ ∀ q : Nat, q < s.heap.size → (∀ z ∈ locs, z.base ≠ q) → U.heap[q]? = s.heap[q]? := by
  obtain ⟨-, h2, -, -, -, h6⟩ := h
  refine ⟨h2, fun q hq hz => ?_⟩
  obtain ⟨c9, e1, e2, e3, e4⟩ := h6 q _ (Array.getElem?_eq_getElem hq)
  have hs : c9.slots = (s.heap[q]).slots := Array.ext_getElem? fun i => e4 i fun hm => hz _ hm rfl
  have h9 : c9 = s.heap[q] := by
    rw [hs] at e2
    exact e2
  have e5 : U.heap[q]? = some c9 := e1
  rw [e5, h9, Array.getElem?_eq_getElem hq]
/-- the words of a throw but the four that speak of the heap -/
def vx_no (w : Cond) : Bool := decide (w ≠ .isRef (.static Bundle.tN "UNASSIGNED_STACK" Bundle.steD)) && decide (w ≠ .isRef (.static Bundle.tN "SUPPRESSED_SENTINEL" Bundle.listD)) && decide (w ≠ .laysStatic Bundle.tN "UNASSIGNED_STACK" Bundle.steD) && decide (w ≠ .laysStatic Bundle.tN "SUPPRESSED_SENTINEL" Bundle.listD)
def vx_at0 (own : String) (ic : Nat) (X : String) (names : List String) : List Cond := (Bundle.ownAtoms0 own ic X names).filter vx_no
def vx_atS (own : String) (ic : Nat) (X : String) (names : List String) : List Cond := (Bundle.ownAtoms own ic X names).filter vx_no
/-- a word that the tables alone decide, or a good one -/
def vx_ot (w : Cond) : Bool := w.onTables || goodWord w
theorem vx_ot_at {args a' : Array Value} {s U : State} {w : Cond} (hW : s.WarmedH U.vm) (hvm : s.vm = U.vm) (hg : vx_ot w = true) (h : w.before args s = true) : w.before a' U = true := by
  simp only [vx_ot, Bool.or_eq_true] at hg
  rcases hg with hg | hg
  · exact va_tabs hg hvm h
  · exact word_at hW (good_of_word hg) h
/-- a list's words: the good ones out of the method's own list, the others by premises of their own -/
theorem vx_hat {args : Array Value} {s : State} {L B : List Cond} (h1 : ∀ w ∈ L.filter goodWord, w.before args s = true) (h2 : ∀ w ∈ L.filter (fun w => !goodWord w), w ∈ B) (h3 : ∀ w ∈ B, w.before args s = true) : ∀ w ∈ L, w.before args s = true := by
  intro w hw
  by_cases g : goodWord w = true
  · exact h1 w (List.mem_filter.mpr ⟨hw, g⟩)
  · refine h3 w (h2 w (List.mem_filter.mpr ⟨hw, ?_⟩))
    show (!goodWord w) = true
    cases hgw : goodWord w
    · rfl
    · exact absurd hgw g
theorem vx_c {args : Array Value} {s : State} {w : Cond} {B : List Cond} (h : w.before args s = true) (t : ∀ w ∈ B, w.before args s = true) : ∀ w' ∈ w :: B, w'.before args s = true := fun w' h' => (List.mem_cons.mp h').elim (fun e => by rw [e]; exact h) (t w')
theorem vx_n {args : Array Value} {s : State} : ∀ w ∈ ([] : List Cond), w.before args s = true := fun _ h => nomatch h
theorem vx_own {args : Array Value} {s : State} {L : List Cond} (h1 : ∀ w ∈ L.filter vx_no, w.before args s = true)
    (hU : (Cond.isRef (.static Bundle.tN "UNASSIGNED_STACK" Bundle.steD)).before args s = true) (hN : (Cond.isRef (.static Bundle.tN "SUPPRESSED_SENTINEL" Bundle.listD)).before args s = true)
    (lU : (Cond.laysStatic Bundle.tN "UNASSIGNED_STACK" Bundle.steD).before args s = true) (lN : (Cond.laysStatic Bundle.tN "SUPPRESSED_SENTINEL" Bundle.listD).before args s = true) : ∀ w ∈ L, w.before args s = true := by
  intro w hw
  by_cases e1 : w = .isRef (.static Bundle.tN "UNASSIGNED_STACK" Bundle.steD)
  · rw [e1]; exact hU
  · by_cases e2 : w = .isRef (.static Bundle.tN "SUPPRESSED_SENTINEL" Bundle.listD)
    · rw [e2]; exact hN
    · by_cases e3 : w = .laysStatic Bundle.tN "UNASSIGNED_STACK" Bundle.steD
      · rw [e3]; exact lU
      · by_cases e4 : w = .laysStatic Bundle.tN "SUPPRESSED_SENTINEL" Bundle.listD
        · rw [e4]; exact lN
        · exact h1 w (List.mem_filter.mpr ⟨hw, by unfold vx_no; rw [decide_eq_true e1, decide_eq_true e2, decide_eq_true e3, decide_eq_true e4]; rfl⟩)
/-- where a static field lies, its class's statics cell in H -/
def vx_L (C n d : String) (A : Nat → Prop) (U : State) (H : Heap) : Prop := ∃ (c : ClassId) (k : Class) (i : Nat) (f : Field) (a : Nat) (cell : Cell), U.vm.findClass C = some c ∧ U.fieldFound? C n d = some (c, k, i, f) ∧ f.isStatic = true ∧ k.statics = some a ∧ H[a]? = some cell ∧ cell.vm.isStatics = true ∧ cell.cls = c ∧ f.slot < cell.slots.size ∧ k.staticTypes[f.slot]? = some f.type ∧ ¬ A a
theorem vx_L.moved {C n d : String} {A : Nat → Prop} {u U : State} {H : Heap} (hvm : u.vm.Alike U.vm) (h : vx_L C n d A u H) : vx_L C n d A U H := by
  obtain ⟨c, k, i, f, a, cell, h1, h2, h3, h4, h5, h6, h7, h8, h9, h10⟩ := h
  obtain ⟨k', hi', he⟩ := State.fieldFound?_setVm hvm h2
  exact ⟨c, k', i, f, a, cell, by rw [hvm.findClass]; exact h1, hi', h3, by rw [he]; exact h4, h5, h6, h7, h8, by rw [he]; exact h9, h10⟩
theorem vx_L.kept {C n d : String} {A : Nat → Prop} {U : State} {H H1 : Heap} (h : vx_L C n d A U H) (hq : ∀ a : Nat, a < H.size → ¬ A a → H1[a]? = H[a]?) : vx_L C n d A U H1 := by
  obtain ⟨c, k, i, f, a, cell, h1, h2, h3, h4, h5, h6, h7, h8, h9, h10⟩ := h
  exact ⟨c, k, i, f, a, cell, h1, h2, h3, h4, by rw [hq a (Array.getElem?_eq_some_iff.mp h5).1 h10]; exact h5, h6, h7, h8, h9, h10⟩
theorem vx_L.narrow {C n d : String} {A B : Nat → Prop} {U : State} {H : Heap} (h : vx_L C n d A U H) (hAB : ∀ q, B q → A q) : vx_L C n d B U H := by
  obtain ⟨c, k, i, f, a, cell, h1, h2, h3, h4, h5, h6, h7, h8, h9, h10⟩ := h
  exact ⟨c, k, i, f, a, cell, h1, h2, h3, h4, h5, h6, h7, h8, h9, fun z => h10 (hAB _ z)⟩
theorem vx_L.word {C n d : String} {A : Nat → Prop} {s : State} {args : Array Value} (h : vx_L C n d A s s.heap) : (Cond.laysStatic C n d).before args s = true := by
  obtain ⟨c, k, i, f, a, cell, h1, h2, h3, h4, h5, h6, h7, h8, h9, -⟩ := h
  show (Cond.laysStatic C n d).holds args s none s [] = true
  exact Cond.laysStatic_of h1 h2 h3 h4 h5 h6 h7 h8 h9
/-- .. and what it holds: null or some reference -/
def vx_Zq (C n d : String) (A : Nat → Prop) (U : State) (H : Heap) : Prop := va_Zq C n d A U H ∧ vx_L C n d A U H
theorem vx_Zq.moved {C n d : String} {A : Nat → Prop} {u U : State} {H : Heap} (hvm : u.vm.Alike U.vm) (h : vx_Zq C n d A u H) : vx_Zq C n d A U H := ⟨va_Zq.moved hvm h.1, vx_L.moved hvm h.2⟩
theorem vx_Zq.kept {C n d : String} {A : Nat → Prop} {U : State} {H H1 : Heap} (h : vx_Zq C n d A U H) (hq : ∀ a : Nat, a < H.size → ¬ A a → H1[a]? = H[a]?) : vx_Zq C n d A U H1 := ⟨va_Zq.kept h.1 hq, vx_L.kept h.2 hq⟩
theorem vx_Zq.narrow {C n d : String} {A B : Nat → Prop} {U : State} {H : Heap} (h : vx_Zq C n d A U H) (hAB : ∀ q, B q → A q) : vx_Zq C n d B U H := ⟨va_Zq.narrow h.1 hAB, vx_L.narrow h.2 hAB⟩
theorem vx_Zqof {args : Array Value} {s : State} {C n d : String} {A : Nat → Prop} (hl : (Cond.laysStatic C n d).before args s = true) (hini : (Cond.initialized C).before args s = true) (h : (Cond.isRef (.static C n d)).before args s = true) (hA : ∀ a : Nat, a < s.heap.size → ¬ A a) : vx_Zq C n d A s s.heap := by
  refine ⟨va_Zqof hl hini h hA, ?_⟩
  obtain ⟨c, k, i, f, a, cell, h1, h2, h3, h4, h5, h6, h7, h8, h9⟩ := Cond.laysStatic_spec hl
  exact ⟨c, k, i, f, a, cell, h1, h2, h3, h4, h5, h6, h7, h8, h9, hA a (Array.getElem?_eq_some_iff.mp h5).1⟩
theorem vx_isRef {C n d : String} {v : Value} {A : Nat → Prop} {s : State} {args : Array Value} (h : va_Z C n d v A s s.heap) (hv : v.isRef = true) : (Cond.isRef (.static C n d)).before args s = true := by
  obtain ⟨cf, kf, fi, f, a, cell, h1, h2, h3, h4, h5, h6, h7, -⟩ := h
  have he : (Term.static C n d).eval args s none [] s = some v := by
    simp [Term.eval, State.fieldNamed?, h1, h2, h4, h5, h6, h7]
  simp only [Cond.before, Cond.holds, Cond.value, he]
  cases v <;> simp_all [Value.isRef]
theorem vx_isRefq {C n d : String} {A : Nat → Prop} {s : State} {args : Array Value} (h : va_Zq C n d A s s.heap) : (Cond.isRef (.static C n d)).before args s = true := by
  rcases h with h | ⟨t, h⟩
  · exact vx_isRef h rfl
  · exact vx_isRef h rfl
/-- the same frame, seen from here: as if the method were called anew in this heap -/
theorem vx_rebase {T : State} (X : Stand p l e R s m args below meth c T locs cells slots) {R' : Room} (hf : R'.frames ≤ R.frames) (hl : R'.locals ≤ R.locals) (hc : cells + R'.cells ≤ R.cells) (hs : slots + R'.slots ≤ R.slots) :
    Stand p l e R' ((T.setVm s.vm).setFrames (.invoking m args :: below)) m args below meth c T [] 0 0 := by
  have htop : (T.setVm s.vm).topJava?.isSome := X.here.top
  have hF : ((T.setVm s.vm).setFrames (.invoking m args :: below)).frames = .invoking m args :: below := State.frames_setFrames _ (State.cur_lt_of_top htop)
  obtain ⟨g₀, hg0⟩ := Option.isSome_iff_exists.mp htop
  obtain ⟨r, hr⟩ := State.topJava?_eq_some.mp hg0
  have hl9 : e.platform.stackLimits (T.setVm s.vm).me = e.platform.stackLimits s.me := X.limits
  have hb9 : (T.setVm s.vm).me.stackBytes = s.me.stackBytes := X.bytes
  refine ⟨X.admits, X.cas, X.clock, hF, ?_, X.hears, X.method, X.code, X.here, X.tail, X.warmed, ?_, ?_, ?_⟩
  · have h := X.room
    have hU : ((T.setVm s.vm).setFrames (.invoking m args :: below)).localsInUse = s.localsInUse := by
      rw [State.localsInUse_invoking hF (meth := meth) (c := c) X.method X.code, State.localsInUse_invoking X.frames X.method X.code]
    simp only [State.hasRoom, Bool.and_eq_true, decide_eq_true_eq] at h ⊢
    obtain ⟨⟨⟨⟨h1, h2, h3, h4, h5, h6⟩, h7⟩, h8⟩, h9⟩ := h
    rw [X.frames, List.length_cons] at h2 h3
    have q1 := X.heapSize
    have q2 := X.used
    simp only [hF, hU, List.length_cons, State.stackLimits_setFrames, State.stackBytes_setFrames, hl9, hb9]
    refine ⟨⟨⟨⟨by omega, by omega, by omega, by omega, by omega, h6⟩, ?_⟩, ?_⟩, X.book⟩
    · show T.heap.size + R'.cells ≤ e.platform.maxCells
      omega
    · show T.slotsUsed + R'.slots ≤ e.platform.maxSlots
      omega
  · rw [State.stackLimits_setFrames]; rfl
  · rw [State.stackBytes_setFrames]; rfl
  · refine ⟨?_, Nat.le_refl _, Nat.le_refl _, ?_, ?_, fun a c9 h9 => ⟨c9, h9, rfl, rfl, fun _ _ => rfl⟩⟩
    · obtain ⟨t, ht, -⟩ := State.frames_cons hr
      show T.setVm s.vm = { ((T.setVm s.vm).setFrames (.invoking m args :: below)).setFrames (T.setVm s.vm).frames with heap := T.heap, slotsUsed := T.slotsUsed }
      rw [State.setFrames_setFrames, State.setFrames_self ht]
      rfl
    · show T.slotsUsed = T.slotsUsed + ((T.heap.toList.drop T.heap.size).map (·.slots.size)).sum
      rw [List.drop_eq_nil_of_le (Nat.le_of_eq Array.length_toList)]
      rfl
    · show ((T.heap.toList.drop T.heap.size).map (·.slots.size)).sum ≤ 0
      rw [List.drop_eq_nil_of_le (Nat.le_of_eq Array.length_toList)]
      exact Nat.le_refl _
/-- 'throw new E()': new; dup; invokespecial; athrow -/
theorem vx_throw0 {cc : ByteArray} {pc : Nat} (hexec : p.tables.exec = Jvm.exec) (hb : c.code = cc) (hl : l.stackTraces = false) {own cls : String} {names : List String} {ik ic mc ms : Nat} {A : Nat → Prop}
    (hown : s.vm.findClass own = some m.cls) (hcls : Bundle.fit cls = true) (hnames : ∀ n ∈ names, Bundle.fit n = true)
    (hk : (Cond.classLink own ik cls).before args s = true) (hini : (Cond.initialized cls).before args s = true) (hat : ∀ w ∈ vx_at0 own ic cls names, w.before args s = true)
    (hgood : ∀ w ∈ Cond.classLink own ik cls :: Cond.initialized cls :: vx_at0 own ic cls names, vx_ot w = true)
    (hU : vx_Zq Bundle.tN "UNASSIGNED_STACK" Bundle.steD A s s.heap) (hN : vx_Zq Bundle.tN "SUPPRESSED_SENTINEL" Bundle.listD A s s.heap) (hS : va_S A s.heap H locs) (hsize : ls.size = c.maxLocals)
    (d0 : decode cc pc = .ok (.new ik, 3)) (d3 : decode cc (pc + 3) = .ok (.dup, 1)) (d4 : decode cc (pc + 4) = .ok (.invokespecial ic, 3)) (d7 : decode cc (pc + 7) = .ok (.athrow, 1))
    (hout : ∀ x ∈ c.exceptionTable.toList, covers x (pc + 7) = false)
    (hRframes : names.length + 3 < R.frames) (hRlocals : (rest.map fun v => v.category).sum + (13 * (names.length + 1) + 42) ≤ R.locals) (hRcells : cells + 1 ≤ R.cells) (hRslots : slots + 6 ≤ R.slots) (hlocks : meth.locks = false)
    (hx : ∀ t : State, s.vm.Alike t.vm → H.size ≤ t.heap.size → (∀ q : Nat, q < H.size → t.heap[q]? = H[q]?) → XC cls s t)
    (hf : ∀ z ∈ locs, free z.base) (hc : cells + 1 ≤ mc) (hs : slots + 6 ≤ ms) :
    W p l e R s m args below meth c H locs cells slots (vx_MQ below Qc XC args s mc ms free) (F0 m pc ls rest) := by
  intro T hT X
  have htr : e.platform.stackTraces = false := (show e.platform.stackTraces = l.stackTraces by rw [X.admits.platform]).trans hl
  have Y := vx_rebase X (R' := { frames := R.frames, locals := R.locals, cells := 1, slots := 6 }) (Nat.le_refl _) (Nat.le_refl _) hRcells hRslots
  obtain ⟨s', hA⟩ : ∃ z, z = (T.setVm s.vm).setFrames (.invoking m args :: below) := ⟨_, rfl⟩
  rw [← hA] at Y
  have hvm : s'.vm = s.vm := by rw [hA]; rfl
  have hhp : s'.heap = H := by rw [hA]; exact hT
  have hW0 : s.WarmedH s'.vm := by rw [hvm]; exact State.WarmedH.refl s
  have hat' : ∀ w ∈ vx_at0 own ic cls names, w.before args s' = true := fun w hw => vx_ot_at hW0 hvm.symm (hgood w (List.mem_cons_of_mem _ (List.mem_cons_of_mem _ hw))) (hat w hw)
  have hk' : (Cond.classLink own ik cls).before args s' = true := vx_ot_at hW0 hvm.symm (hgood _ List.mem_cons_self) hk
  have hini' : (Cond.initialized cls).before args s' = true := vx_ot_at hW0 hvm.symm (hgood _ (List.mem_cons_of_mem _ List.mem_cons_self)) hini
  have hU' : vx_Zq Bundle.tN "UNASSIGNED_STACK" Bundle.steD A s' s'.heap := by rw [hhp]; exact vx_Zq.moved hW0.alike (hU.kept hS.2.1)
  have hN' : vx_Zq Bundle.tN "SUPPRESSED_SENTINEL" Bundle.listD A s' s'.heap := by rw [hhp]; exact vx_Zq.moved hW0.alike (hN.kept hS.2.1)
  have h : ∀ w ∈ Bundle.ownAtoms0 own ic cls names, w.before args s' = true := vx_own hat' (vx_isRefq hU'.1) (vx_isRefq hN'.1) hU'.2.word hN'.2.word
  have hown' : s'.vm.findClass own = some m.cls := by rw [hvm]; exact hown
  have hins : (Cond.instantiable cls 6).before args s' = true := h _ (by simp [Bundle.ownAtoms0])
  obtain ⟨vm₁, cX, kX, hfX, hkX, -, -, X₁, st1⟩ := Y.newCold hexec (own := own) (C := cls) (index := ik) (n := 6) hown' hk' hins hini'
    (g := F0 m pc ls rest) rfl (by rw [hb]; exact d0) (Nat.le_refl _) (Nat.le_refl _)
  generalize hT1 : (T.setVm vm₁).pushCell { cls := cX, slots := kX.instanceTypes.map defaultValue, vm := .none } = T1 at X₁ st1
  have hcat : (Value.ref T.heap.size).category = 1 := rfl
  have hcellA : T1.heap[T.heap.size]? = some (freshCell cX kX) := by rw [← hT1]; exact State.heap_pushCell_size _ _
  have d3' : decode c.code (pc + 3) = .ok (.dup, 1) := by rw [hb]; exact d3
  obtain ⟨U, hsteps, hrun, hend, hW, hsame, ce, hce, hO⟩ := X₁.ctorThrow0 hexec htr (own := own) (cls := cls) (names := names) (ic := ic) hown' hcls hnames h (fun x hx => nomatch hx) hfX hkX hcellA (by rw [hhp, hT]; exact Nat.le_refl _)
    (g := { method := m, pc := pc + 4, locals := ls, stack := .ref T.heap.size :: .ref T.heap.size :: rest, locked := none }) rfl hsize rfl rfl (rest := rest) rfl
    (by rw [hb]; exact d4) (by rw [hb]; exact d7) hout hRframes (by simp only [List.map_cons, List.sum_cons, hcat]; omega) hlocks
  obtain ⟨f1, f2⟩ := vx_frame hsame
  rw [hhp] at f1 f2
  have hWs : s.WarmedH U.vm := State.WarmedH.trans hW0 hW
  have hcl : s.vm.findClass cls = some ce.cls := by
    have h9 := hO.cls
    rw [hvm] at h9
    exact h9
  have hall : s.sameButNew ({ U with vm := s.vm } : State) locs mc ms := by
    subst hA
    obtain ⟨e1, e2⟩ := hsame
    rw [State.setFrames_setFrames] at e1
    have h2 : (T.setVm s.vm).sameButNew ({ U with vm := s.vm } : State) [] (0 + 1) (0 + 6) := ⟨e1, e2⟩
    have h3 := X.same.trans h2
    rw [List.append_nil] at h3
    exact h3.mono hc hs
  refine ⟨U, ?_, .threw T.heap.size, hrun, hend, Or.inr ⟨T.heap.size, rfl, cls, ce, locs, hx U hWs.alike f1 (fun q hq => f2 q hq (fun z hz => nomatch hz)), hce, hO.vm, hcl, hWs, hall, hf⟩⟩
  refine st1 _ ?_
  show Steps p.tables e below (T1.setTop { method := m, pc := pc + 3, locals := ls, stack := .ref T.heap.size :: rest, locked := none }) _
  jvm_step X₁.here [X₁.here.top, hexec, d3', Value.category]
  exact hsteps
/-- 'throw new E("text")': new; dup; ldc; invokespecial; athrow -/
theorem vx_throwS {cc : ByteArray} {pc : Nat} (hexec : p.tables.exec = Jvm.exec) (hb : c.code = cc) (hl : l.stackTraces = false) {own cls text : String} {names : List String} {ik is ic mc ms sa : Nat} {A : Nat → Prop}
    (hown : s.vm.findClass own = some m.cls) (hcls : Bundle.fit cls = true) (hnames : ∀ n ∈ names, Bundle.fit n = true)
    (hk : (Cond.classLink own ik cls).before args s = true) (hini : (Cond.initialized cls).before args s = true) (hstr : vk_R own is text sa s) (hat : ∀ w ∈ vx_atS own ic cls names, w.before args s = true)
    (hgood : ∀ w ∈ Cond.classLink own ik cls :: Cond.initialized cls :: vx_atS own ic cls names, vx_ot w = true)
    (hU : vx_Zq Bundle.tN "UNASSIGNED_STACK" Bundle.steD A s s.heap) (hN : vx_Zq Bundle.tN "SUPPRESSED_SENTINEL" Bundle.listD A s s.heap) (hS : va_S A s.heap H locs) (hsize : ls.size = c.maxLocals)
    (d0 : decode cc pc = .ok (.new ik, 3)) (d3 : decode cc (pc + 3) = .ok (.dup, 1)) (d4 : decode cc (pc + 4) = .ok (.ldc is, 2)) (d6 : decode cc (pc + 6) = .ok (.invokespecial ic, 3)) (d9 : decode cc (pc + 9) = .ok (.athrow, 1))
    (hout : ∀ x ∈ c.exceptionTable.toList, covers x (pc + 9) = false)
    (hRframes : names.length + 3 < R.frames) (hRlocals : (rest.map fun v => v.category).sum + (13 * (names.length + 1) + 43) ≤ R.locals) (hRcells : cells + 1 ≤ R.cells) (hRslots : slots + 6 ≤ R.slots) (hlocks : meth.locks = false)
    (hx : ∀ t : State, s.vm.Alike t.vm → H.size ≤ t.heap.size → (∀ q : Nat, q < H.size → t.heap[q]? = H[q]?) → XC cls s t)
    (hf : ∀ z ∈ locs, free z.base) (hc : cells + 1 ≤ mc) (hs : slots + 6 ≤ ms) :
    W p l e R s m args below meth c H locs cells slots (vx_MQ below Qc XC args s mc ms free) (F0 m pc ls rest) := by
  intro T hT X
  have htr : e.platform.stackTraces = false := (show e.platform.stackTraces = l.stackTraces by rw [X.admits.platform]).trans hl
  have Y := vx_rebase X (R' := { frames := R.frames, locals := R.locals, cells := 1, slots := 6 }) (Nat.le_refl _) (Nat.le_refl _) hRcells hRslots
  obtain ⟨s', hA⟩ : ∃ z, z = (T.setVm s.vm).setFrames (.invoking m args :: below) := ⟨_, rfl⟩
  rw [← hA] at Y
  have hvm : s'.vm = s.vm := by rw [hA]; rfl
  have hhp : s'.heap = H := by rw [hA]; exact hT
  have hW0 : s.WarmedH s'.vm := by rw [hvm]; exact State.WarmedH.refl s
  have hat' : ∀ w ∈ vx_atS own ic cls names, w.before args s' = true := fun w hw => vx_ot_at hW0 hvm.symm (hgood w (List.mem_cons_of_mem _ (List.mem_cons_of_mem _ hw))) (hat w hw)
  have hk' : (Cond.classLink own ik cls).before args s' = true := vx_ot_at hW0 hvm.symm (hgood _ List.mem_cons_self) hk
  have hini' : (Cond.initialized cls).before args s' = true := vx_ot_at hW0 hvm.symm (hgood _ (List.mem_cons_of_mem _ List.mem_cons_self)) hini
  have hU' : vx_Zq Bundle.tN "UNASSIGNED_STACK" Bundle.steD A s' s'.heap := by rw [hhp]; exact vx_Zq.moved hW0.alike (hU.kept hS.2.1)
  have hN' : vx_Zq Bundle.tN "SUPPRESSED_SENTINEL" Bundle.listD A s' s'.heap := by rw [hhp]; exact vx_Zq.moved hW0.alike (hN.kept hS.2.1)
  have h : ∀ w ∈ Bundle.ownAtoms own ic cls names, w.before args s' = true := vx_own hat' (vx_isRefq hU'.1) (vx_isRefq hN'.1) hU'.2.word hN'.2.word
  have hown' : s'.vm.findClass own = some m.cls := by rw [hvm]; exact hown
  have hins : (Cond.instantiable cls 6).before args s' = true := h _ (by simp [Bundle.ownAtoms])
  obtain ⟨vm₁, cX, kX, hfX, hkX, -, -, X₁, st1⟩ := Y.newCold hexec (own := own) (C := cls) (index := ik) (n := 6) hown' hk' hins hini'
    (g := F0 m pc ls rest) rfl (by rw [hb]; exact d0) (Nat.le_refl _) (Nat.le_refl _)
  generalize hT1 : (T.setVm vm₁).pushCell { cls := cX, slots := kX.instanceTypes.map defaultValue, vm := .none } = T1 at X₁ st1
  have hcat : (Value.ref T.heap.size).category = 1 := rfl
  have hcellA : T1.heap[T.heap.size]? = some (freshCell cX kX) := by rw [← hT1]; exact State.heap_pushCell_size _ _
  have d3' : decode c.code (pc + 3) = .ok (.dup, 1) := by rw [hb]; exact d3
  have d4' : decode c.code (pc + 4) = .ok (.ldc is, 2) := by rw [hb]; exact d4
  have hstr' : vk_R own is text sa s' := vk_R.warm hW0 hstr
  obtain ⟨U, hsteps, hrun, hend, hW, hsame, ce, hce, hO⟩ := X₁.ctorThrowS hexec htr (own := own) (cls := cls) (names := names) (ic := ic) hown' hcls hnames h (fun x hx => nomatch hx) hfX hkX hcellA (by rw [hhp, hT]; exact Nat.le_refl _) (msg := .ref sa) rfl
    (g := { method := m, pc := pc + 6, locals := ls, stack := .ref sa :: .ref T.heap.size :: .ref T.heap.size :: rest, locked := none }) rfl hsize rfl rfl (rest := rest) rfl
    (by rw [hb]; exact d6) (by rw [hb]; exact d9) hout hRframes (by simp only [List.map_cons, List.sum_cons, hcat]; omega) hlocks
  obtain ⟨f1, f2⟩ := vx_frame hsame
  rw [hhp] at f1 f2
  have hWs : s.WarmedH U.vm := State.WarmedH.trans hW0 hW
  have hcl : s.vm.findClass cls = some ce.cls := by
    have h9 := hO.cls
    rw [hvm] at h9
    exact h9
  have hall : s.sameButNew ({ U with vm := s.vm } : State) locs mc ms := by
    subst hA
    obtain ⟨e1, e2⟩ := hsame
    rw [State.setFrames_setFrames] at e1
    have h2 : (T.setVm s.vm).sameButNew ({ U with vm := s.vm } : State) [] (0 + 1) (0 + 6) := ⟨e1, e2⟩
    have h3 := X.same.trans h2
    rw [List.append_nil] at h3
    exact h3.mono hc hs
  refine ⟨U, ?_, .threw T.heap.size, hrun, hend, Or.inr ⟨T.heap.size, rfl, cls, ce, locs, hx U hWs.alike f1 (fun q hq => f2 q hq (fun z hz => nomatch hz)), hce, hO.vm, hcl, hWs, hall, hf⟩⟩
  refine st1 _ ?_
  show Steps p.tables e below (T1.setTop { method := m, pc := pc + 3, locals := ls, stack := .ref T.heap.size :: rest, locked := none }) _
  jvm_step X₁.here [X₁.here.top, hexec, d3', Value.category]
  exact X₁.ldcString hexec (own := own) (text := text) (index := is) (a := sa) hown' hstr'.1 hstr'.2
    (g := { method := m, pc := pc + 4, locals := ls, stack := .ref T.heap.size :: .ref T.heap.size :: rest, locked := none }) rfl d4' _ hsteps
/-- 'throw new E("text")', the text by a wide index -/
theorem vx_throwSW {cc : ByteArray} {pc : Nat} (hexec : p.tables.exec = Jvm.exec) (hb : c.code = cc) (hl : l.stackTraces = false) {own cls text : String} {names : List String} {ik is ic mc ms sa : Nat} {A : Nat → Prop}
    (hown : s.vm.findClass own = some m.cls) (hcls : Bundle.fit cls = true) (hnames : ∀ n ∈ names, Bundle.fit n = true)
    (hk : (Cond.classLink own ik cls).before args s = true) (hini : (Cond.initialized cls).before args s = true) (hstr : vk_R own is text sa s) (hat : ∀ w ∈ vx_atS own ic cls names, w.before args s = true)
    (hgood : ∀ w ∈ Cond.classLink own ik cls :: Cond.initialized cls :: vx_atS own ic cls names, vx_ot w = true)
    (hU : vx_Zq Bundle.tN "UNASSIGNED_STACK" Bundle.steD A s s.heap) (hN : vx_Zq Bundle.tN "SUPPRESSED_SENTINEL" Bundle.listD A s s.heap) (hS : va_S A s.heap H locs) (hsize : ls.size = c.maxLocals)
    (d0 : decode cc pc = .ok (.new ik, 3)) (d3 : decode cc (pc + 3) = .ok (.dup, 1)) (d4 : decode cc (pc + 4) = .ok (.ldc_w is, 3)) (d7 : decode cc (pc + 7) = .ok (.invokespecial ic, 3)) (d10 : decode cc (pc + 10) = .ok (.athrow, 1))
    (hout : ∀ x ∈ c.exceptionTable.toList, covers x (pc + 10) = false)
    (hRframes : names.length + 3 < R.frames) (hRlocals : (rest.map fun v => v.category).sum + (13 * (names.length + 1) + 43) ≤ R.locals) (hRcells : cells + 1 ≤ R.cells) (hRslots : slots + 6 ≤ R.slots) (hlocks : meth.locks = false)
    (hx : ∀ t : State, s.vm.Alike t.vm → H.size ≤ t.heap.size → (∀ q : Nat, q < H.size → t.heap[q]? = H[q]?) → XC cls s t)
    (hf : ∀ z ∈ locs, free z.base) (hc : cells + 1 ≤ mc) (hs : slots + 6 ≤ ms) :
    W p l e R s m args below meth c H locs cells slots (vx_MQ below Qc XC args s mc ms free) (F0 m pc ls rest) := by
  intro T hT X
  have htr : e.platform.stackTraces = false := (show e.platform.stackTraces = l.stackTraces by rw [X.admits.platform]).trans hl
  have Y := vx_rebase X (R' := { frames := R.frames, locals := R.locals, cells := 1, slots := 6 }) (Nat.le_refl _) (Nat.le_refl _) hRcells hRslots
  obtain ⟨s', hA⟩ : ∃ z, z = (T.setVm s.vm).setFrames (.invoking m args :: below) := ⟨_, rfl⟩
  rw [← hA] at Y
  have hvm : s'.vm = s.vm := by rw [hA]; rfl
  have hhp : s'.heap = H := by rw [hA]; exact hT
  have hW0 : s.WarmedH s'.vm := by rw [hvm]; exact State.WarmedH.refl s
  have hat' : ∀ w ∈ vx_atS own ic cls names, w.before args s' = true := fun w hw => vx_ot_at hW0 hvm.symm (hgood w (List.mem_cons_of_mem _ (List.mem_cons_of_mem _ hw))) (hat w hw)
  have hk' : (Cond.classLink own ik cls).before args s' = true := vx_ot_at hW0 hvm.symm (hgood _ List.mem_cons_self) hk
  have hini' : (Cond.initialized cls).before args s' = true := vx_ot_at hW0 hvm.symm (hgood _ (List.mem_cons_of_mem _ List.mem_cons_self)) hini
  have hU' : vx_Zq Bundle.tN "UNASSIGNED_STACK" Bundle.steD A s' s'.heap := by rw [hhp]; exact vx_Zq.moved hW0.alike (hU.kept hS.2.1)
  have hN' : vx_Zq Bundle.tN "SUPPRESSED_SENTINEL" Bundle.listD A s' s'.heap := by rw [hhp]; exact vx_Zq.moved hW0.alike (hN.kept hS.2.1)
  have h : ∀ w ∈ Bundle.ownAtoms own ic cls names, w.before args s' = true := vx_own hat' (vx_isRefq hU'.1) (vx_isRefq hN'.1) hU'.2.word hN'.2.word
  have hown' : s'.vm.findClass own = some m.cls := by rw [hvm]; exact hown
  have hins : (Cond.instantiable cls 6).before args s' = true := h _ (by simp [Bundle.ownAtoms])
  obtain ⟨vm₁, cX, kX, hfX, hkX, -, -, X₁, st1⟩ := Y.newCold hexec (own := own) (C := cls) (index := ik) (n := 6) hown' hk' hins hini'
    (g := F0 m pc ls rest) rfl (by rw [hb]; exact d0) (Nat.le_refl _) (Nat.le_refl _)
  generalize hT1 : (T.setVm vm₁).pushCell { cls := cX, slots := kX.instanceTypes.map defaultValue, vm := .none } = T1 at X₁ st1
  have hcat : (Value.ref T.heap.size).category = 1 := rfl
  have hcellA : T1.heap[T.heap.size]? = some (freshCell cX kX) := by rw [← hT1]; exact State.heap_pushCell_size _ _
  have d3' : decode c.code (pc + 3) = .ok (.dup, 1) := by rw [hb]; exact d3
  have d4' : decode c.code (pc + 4) = .ok (.ldc_w is, 3) := by rw [hb]; exact d4
  have hstr' : vk_R own is text sa s' := vk_R.warm hW0 hstr
  obtain ⟨U, hsteps, hrun, hend, hW, hsame, ce, hce, hO⟩ := X₁.ctorThrowS hexec htr (own := own) (cls := cls) (names := names) (ic := ic) hown' hcls hnames h (fun x hx => nomatch hx) hfX hkX hcellA (by rw [hhp, hT]; exact Nat.le_refl _) (msg := .ref sa) rfl
    (g := { method := m, pc := pc + 7, locals := ls, stack := .ref sa :: .ref T.heap.size :: .ref T.heap.size :: rest, locked := none }) rfl hsize rfl rfl (rest := rest) rfl
    (by rw [hb]; exact d7) (by rw [hb]; exact d10) hout hRframes (by simp only [List.map_cons, List.sum_cons, hcat]; omega) hlocks
  obtain ⟨f1, f2⟩ := vx_frame hsame
  rw [hhp] at f1 f2
  have hWs : s.WarmedH U.vm := State.WarmedH.trans hW0 hW
  have hcl : s.vm.findClass cls = some ce.cls := by
    have h9 := hO.cls
    rw [hvm] at h9
    exact h9
  have hall : s.sameButNew ({ U with vm := s.vm } : State) locs mc ms := by
    subst hA
    obtain ⟨e1, e2⟩ := hsame
    rw [State.setFrames_setFrames] at e1
    have h2 : (T.setVm s.vm).sameButNew ({ U with vm := s.vm } : State) [] (0 + 1) (0 + 6) := ⟨e1, e2⟩
    have h3 := X.same.trans h2
    rw [List.append_nil] at h3
    exact h3.mono hc hs
  refine ⟨U, ?_, .threw T.heap.size, hrun, hend, Or.inr ⟨T.heap.size, rfl, cls, ce, locs, hx U hWs.alike f1 (fun q hq => f2 q hq (fun z hz => nomatch hz)), hce, hO.vm, hcl, hWs, hall, hf⟩⟩
  refine st1 _ ?_
  show Steps p.tables e below (T1.setTop { method := m, pc := pc + 3, locals := ls, stack := .ref T.heap.size :: rest, locked := none }) _
  jvm_step X₁.here [X₁.here.top, hexec, d3', Value.category]
  exact X₁.ldcStringW hexec (own := own) (text := text) (index := is) (a := sa) hown' hstr'.1 hstr'.2
    (g := { method := m, pc := pc + 4, locals := ls, stack := .ref T.heap.size :: .ref T.heap.size :: rest, locked := none }) rfl d4' _ hsteps
end Ends
section Bodies
variable {l : Launch}
theorem vx_ofW {y : MethodName} {ws ws' : List Cond} {rm : Room} {Pc : Array Value → State → Prop} {Qc : Array Value → State → Outcome → State → Prop} {XC : String → State → State → Prop} {mc ms : Nat} {free : Addr → Prop} {cc : ByteArray} {maxL : Nat} {ret : Option FieldType}
    (hy : plainName y.cls = true) (hw : ws = Cond.code y cc maxL ret :: ws')
    (body : ∀ p e s m args below meth c s₁, BodyLoose p l y (headSpec ws rm) cc maxL ret e s m args below meth c s₁ → c.maxLocals = maxL → (∀ x ∈ c.exceptionTable.toList, False) → Pc args s →
      W p l e (headSpec ws rm).room s m args below meth c s.heap [] 0 0 (vx_MQ below Qc XC args s mc ms free) (entryFrame m args maxL)) : vx_Met l y ws rm Pc Qc XC mc ms free := by
  refine MetFree.of_bodyS (code := cc) (maxLocals := maxL) (ret := ret) hy ?_ ?_
  · intro args s m h hn
    obtain ⟨meth, c, h1, h2, h3, h4, h5, h6, -, -⟩ := Cond.code_spec hn (atoms_spec (ws := ws) h _ (by rw [hw]; exact List.mem_cons_self))
    exact ⟨meth, c, h1, h2, h3, h4, h5, h6⟩
  · intro p e s m args below meth c s₁ B hml hP _
    have hh0 : s₁.heap = s.heap := by rw [B.state]; rfl
    have ht : ∀ x ∈ c.exceptionTable.toList, False := by
      obtain ⟨meth9, c9, h1, h2, -, -, -, -, h7, -⟩ := Cond.code_spec B.named (atoms_spec (ws := ws) B.pre _ (by rw [hw]; exact List.mem_cons_self))
      cases Option.some.inj (h1.symm.trans B.method)
      cases Option.some.inj (h2.symm.trans (Stand.of_body B).code)
      intro x hx
      rw [Array.isEmpty_iff.mp h7] at hx
      cases hx
    obtain ⟨t, a1, o, b1, b2, b3⟩ := body p e s m args below meth c s₁ B hml ht hP s₁ hh0 (Stand.of_body B)
    exact ⟨t, o, a1, b1, b2, b3⟩
/-- the table of a body with handlers -/
theorem vx_table {p : Program} {x y : MethodName} {S : Spec} {cc bytes : ByteArray} {maxL maxL' : Nat} {ret ret' : Option FieldType} {e : Env} {s s₁ : State} {m : MethodId} {args : Array Value} {below : List Frame} {meth : Method} {c : Code} {hh : List (Nat × Nat × Nat × Nat)}
    (B : BodyLoose p l y S cc maxL ret e s m args below meth c s₁) (h : (Cond.codeWith y bytes maxL' ret' hh).before args s = true) : c.exceptionTable.toList = tableOf hh := by
  obtain ⟨m9, meth9, c9, hn9, h1, h2, -, -, h6, -⟩ := Cond.codeWith_spec h
  cases Option.some.inj (hn9.symm.trans B.named)
  cases Option.some.inj (h1.symm.trans B.method)
  cases Option.some.inj (h2.symm.trans (Stand.of_body B).code)
  rw [← h6, table_eq]
end Bodies
end VXA
/-! ===== END ===== -/
/-! ===== BEGIN a static call of a method with an exception table ===== -/
section VXS
variable {p : Program} {l : Launch} {e : Env} {R : Room} {s : State} {m : MethodId} {args : Array Value} {below : List Frame} {meth : Method} {c : Code} {T : State} {H : Heap} {locs : List Loc} {cells slots : Nat}
abbrev vx_CSW (R : Room) (s : State) (args : Array Value) (own : String) (index : Nat) (y : MethodName) (bytes : ByteArray) (maxL : Nat) (ret : Option FieldType) (hh : List (Nat × Nat × Nat × Nat)) (ws : List Cond) (rm : Room) (mc ms n : Nat) : Prop :=
  (rm.cells = mc ∧ rm.slots = ms ∧ rm.frames + 1 ≤ R.frames ∧ 8 + (maxL + 11) + rm.locals ≤ R.locals ∧ (∀ w ∈ ws, ∀ (a' : Array Value) (U : State), s.WarmedH U.vm → w.before a' U = true) ∧ Cond.codeWith y bytes maxL ret hh ∈ ws) ∧
  (Cond.codeWith y bytes maxL ret hh).before args s = true ∧ (Cond.initialized y.cls).before args s = true ∧ (y.cls ≠ "java/lang/invoke/MethodHandle" ∧ y.cls ≠ "java/lang/invoke/VarHandle") ∧
  (∀ sig, parseMethodDescriptor y.desc = some sig → n = sig.parameters.length) ∧ (Cond.methodLink own index y).before args s = true ∧ (Cond.static y).before args s = true
theorem vx_cwSW {own : String} {index maxL mc ms : Nat} {y : MethodName} {bytes : ByteArray} {ret : Option FieldType} {hh : List (Nat × Nat × Nat × Nat)} {Ts ws ws' : List Cond} {rm : Room} (n : Nat) (ht : ∀ w ∈ Ts, w.before args s = true) (hT : GoodIn Ts (va_wsS own index y ws)) (hw : ws = Cond.codeWith y bytes maxL ret hh :: ws') (hrc : rm.cells = mc) (hrs : rm.slots = ms)
    (hd : y.cls ≠ "java/lang/invoke/MethodHandle" ∧ y.cls ≠ "java/lang/invoke/VarHandle" ∧ (parseMethodDescriptor y.desc).map (fun d => d.parameters.length) = some n) (hR : rm.frames + 1 ≤ R.frames ∧ 8 + (maxL + 11) + rm.locals ≤ R.locals) :
    vx_CSW R s args own index y bytes maxL ret hh ws rm mc ms n := by
  have ok : ∀ w ∈ va_wsS own index y ws, w.before args s = true := fun w h => ht w (hT w h).1
  have hG : GoodIn Ts ws := fun w h => hT w (by unfold va_wsS; exact List.mem_append_right _ h)
  have hc : Cond.codeWith y bytes maxL ret hh ∈ ws := by rw [hw]; exact List.mem_cons_self
  refine ⟨⟨hrc, hrs, hR.1, hR.2, pay_in ht hG, hc⟩, ht _ (hG _ hc).1, ok _ (by simp [va_wsS]), ⟨hd.1, hd.2.1⟩, fun sig h => ?_, ok _ (by simp [va_wsS]), ok _ (by simp [va_wsS])⟩
  have h2 := hd.2.2
  rw [h] at h2
  exact (Option.some.inj h2).symm
theorem vx_callSW (X : Stand p l e R s m args below meth c T locs cells slots) (hexec : p.tables.exec = Jvm.exec) {own : String} {index : Nat} {y : MethodName} {bytes : ByteArray} {maxL : Nat} {ret : Option FieldType} {hh : List (Nat × Nat × Nat × Nat)}
    (hown : s.vm.findClass own = some m.cls) (hlink : (Cond.methodLink own index y).before args s = true) (hstat : (Cond.static y).before args s = true) (hinit : (Cond.initialized y.cls).before args s = true)
    (hcode : (Cond.codeWith y bytes maxL ret hh).before args s = true) (hy : y.cls ≠ "java/lang/invoke/MethodHandle" ∧ y.cls ≠ "java/lang/invoke/VarHandle")
    {W9 : Nat} {Pre : Pt → Array Value → Prop} {Post : Pt → Array Value → Option Value → Pt → Prop} (hK : Back l R p e below s args y 3 W9 Pre Post)
    {g : JFrame} (hg : g.method = m) (hsize : g.locals.size = c.maxLocals) {argsL rest : List Value} (hlen : ∀ sig, parseMethodDescriptor y.desc = some sig → argsL.length = sig.parameters.length)
    (hstack : g.stack = argsL.reverse ++ rest) (hW : 2 * g.monitorRoom + (rest.map fun v => v.category).sum ≤ W9) (hdg : decode c.code g.pc = .ok (.invokestatic index, 3))
    (hpre : ∀ vm₁, s.WarmedH vm₁ → Pre ⟨T.setVm vm₁, locs, cells, slots⟩ argsL.toArray) :
    ∃ (v : Option Value) (vm₁ : Vm) (B : Pt), s.WarmedH vm₁ ∧ Stand p l e R s m args below meth c B.U B.locs B.cells B.slots ∧ Post ⟨T.setVm vm₁, locs, cells, slots⟩ argsL.toArray v B ∧
      ∀ target, Steps p.tables e below (B.U.setTop { g with pc := g.pc + 3, stack := v.toList ++ rest }) target → Steps p.tables e below (T.setTop g) target := by
  obtain ⟨mk, methM, cM, hnamed, hmethM, -, -, -, -, -, -, hsigM⟩ := Cond.codeWith_spec hcode
  have hstatic : methM.isStatic = true := Cond.static_spec hnamed hmethM hstat
  obtain ⟨kP, hkP, -⟩ := className_of_methodNamed hnamed
  have hinitP : kP.init = .initialized := Cond.initialized_spec (findClass_of_methodNamed hnamed) hkP hinit
  obtain ⟨vm₁, X₁, hstep₁⟩ := X.invokestatic hexec hown hlink hnamed hmethM hstatic hkP hinitP hy (g := g) hg (argsL := argsL) (rest := rest) (hlen _ hsigM) hstack hdg
  obtain ⟨v, B, X', hpost, hsteps⟩ := hK m meth c ⟨T.setVm vm₁, locs, cells, slots⟩ { g with stack := rest } (.invokestatic index) mk argsL.toArray X₁ hg hsize hdg hW (X₁.named hnamed) (hpre vm₁ X₁.warmed)
  exact ⟨v, vm₁, B, X₁.warmed, X', hpost, fun target h => hstep₁ _ fun acts => by rw [doInvoke_state]; exact hsteps.trans h⟩
theorem vx_runSW {y : MethodName} {bytes cc : ByteArray} {maxL nL mc ms n index : Nat} {ret : Option FieldType} {hh : List (Nat × Nat × Nat × Nat)} {ws : List Cond} {rm : Room} {Pc : Array Value → State → Prop} {Qc : Array Value → State → Outcome → State → Prop} {free : Addr → Prop} {Ts : List Cond} {own : String} {As rest : List Value} {g : JFrame}
    (S : CallFix p m c cc nL s args Ts own) (hM : Met l y ws rm Pc Qc mc ms free) (cw : vx_CSW R s args own index y bytes maxL ret hh ws rm mc ms n) (hp : PreS s H Pc As)
    (hg : g.method = m) (hn : As.length = n) (hsize : g.locals.size = nL) (hstack : g.stack = As.reverse ++ rest) (hW : 2 * g.monitorRoom + (rest.map fun v => v.category).sum ≤ 8) (hdg : decode cc g.pc = .ok (.invokestatic index, 3)) (hf : cells + mc ≤ R.cells ∧ slots + ms ≤ R.slots) :
    va_Run p l e R s m args below meth c H locs cells slots mc ms g rest (Qc As.toArray) (free) := by
  obtain ⟨⟨hrc, hrs, hfr, hlo, hws, hcw⟩, hcode, hini, hy, hlen, hl, hstt⟩ := cw
  have hK : Back l R p e below s args y 3 8 (PreOf R mc ms Pc) (PostOf Qc mc ms free) := va_backW (hh := hh) (bytes := bytes) (maxL := maxL) (ret := ret) hM hp.1 hrc hrs hfr hlo hws hcw (fun a' U hW => word_at hW (Or.inl (by first | rfl | simp [Cond.onTables, Cond.keeps, Cond.steady])) hini)
  obtain ⟨hx, hb, hml, ho, -⟩ := S
  intro T hT X
  obtain ⟨v, vm₁, ⟨U', l2, c2, s2⟩, hW₁, X', ⟨g', mk, t, L, e1, e2, hq, h1, hL, h2, h3⟩, st⟩ := vx_callSW X hx (hh := hh) (bytes := bytes) (maxL := maxL) (ret := ret) ho hl hstt hini hcode hy hK hg (hsize.trans hml.symm) (argsL := As) (rest := rest) (fun sig h => hn.trans (hlen sig h)) hstack hW (by rw [hb]; exact hdg)
    (fun vm₁ hW₁ => ⟨hf.1, hf.2, hp.2 (T.setVm vm₁) hT hW₁⟩)
  dsimp only [Pt.U, Pt.locs, Pt.cells, Pt.slots] at X' e1 e2 h1 h2 h3 st
  subst h1; subst h2; subst h3
  exact ⟨v, (T.setVm vm₁).calling g' mk As.toArray, t, U', L, hT, X', hL, e1, e2, hq, st⟩
/-- not caught here, past rows that name other classes: it goes on to the caller -/
theorem vx_outP {p : Program} {l : Launch} {e : Env} {R : Room} {s : State} {m : MethodId} {args : Array Value} {below : List Frame} {meth : Method} {c : Code} {H : Heap} {locs : List Loc} {cells slots : Nat} {free : Addr → Prop} {ls : Array Slot} {rest : List Value} {Qc : Array Value → State → Outcome → State → Prop} {XC : String → State → State → Prop}
    {pc : Nat} {own E : String} {ce : Cell} {q : Addr} {mc ms : Nat} (hown : s.vm.findClass own = some m.cls) (hlocks : meth.locks = false)
    (hpass : ∀ z ∈ c.exceptionTable.toList, covers z pc = false ∨ (z.catchType ≠ 0 ∧ ∃ nm : String, (Cond.classLink own z.catchType nm).before args s = true ∧ va_Nc E nm s)) (hcell : H[q]? = some ce) (hv : ce.vm = .none) (hcl : s.vm.findClass E = some ce.cls)
    (hx : ∀ t : State, t.heap = H → s.vm.Alike t.vm → XC E s t) (hf : ∀ z ∈ locs, free z.base) (hc : cells ≤ mc) (hs : slots ≤ ms) :
    vx_W p l e R s m args below meth c H locs cells slots (vx_MQ below Qc XC args s mc ms free) (F0 m pc ls rest) q := by
  intro T hT X
  have hpl : e.platform.magicAccessors = ({} : Platform).magicAccessors := by rw [X.admits.platform]
  obtain ⟨vm', hW', X', st⟩ := X.outThrough hlocks q (g := F0 m pc ls rest) rfl rfl rfl (cell := ce) (by rw [hT]; exact hcell) (by rw [hv]; rfl)
    (by obtain ⟨k9, h9, -⟩ := Vm.findClass_spec hcl; exact ⟨k9, h9⟩) (fun z hz => by
      rcases hpass z hz with h | ⟨hz0, nm, hl1, hn1⟩
      · exact Or.inl h
      · obtain ⟨c6, hc6, hcl6⟩ := Cond.classLink_spec hown hl1 e.platform hpl
        obtain ⟨a8, b8, h1, h2, h3⟩ := hn1
        cases Option.some.inj (h1.symm.trans hcl)
        cases Option.some.inj (h2.symm.trans hc6)
        exact Or.inr ⟨hz0, _, hcl6, h3⟩)
  obtain ⟨g₀, hfr⟩ := X'.frames_eq
  have hcell9 : ((T.setVm vm').setFrames (.throwing q :: below)).heap[q]? = some ce := by
    show T.heap[q]? = some ce
    rw [hT]; exact hcell
  have hend : Ended ((T.setVm vm').setFrames (.throwing q :: below)) below (.threw q) := State.frames_setFrames _ (State.cur_lt_of_frames hfr)
  refine ⟨(T.setVm vm').setFrames (.throwing q :: below), ?_, .threw q, X'.here.running, hend, Or.inr ⟨q, rfl, E, ce, locs, hx _ hT (X'.ends _).1.alike, hcell9, hv, hcl, (X'.ends _).1, (X'.ends _).2.mono hc hs, hf⟩⟩
  rw [X.pushThrowing_eq]
  exact st
/-- a thing of a world lies in the heap -/
theorem vx_lt {D : va_G} {cl : List vw_C} {ws : va_W} {H1 : Heap} (h : va_P D cl ws H1) {k : Nat} {q : Nat × va_E} (hk : ws[k]? = some q) : q.1 < H1.size := (h k q hk).lt
end VXS
/-! ===== END ===== -/
/-! ===== BEGIN methods with a table of their own: called by a name, returning or throwing ===== -/
section VXH
/-! vx_backW, vx_callVX, vx_callSX, vx_callVW, vx_runVW, vx_runVX, vx_runSX, vx_ofWH follow the same proofs as their sisters above (Free/Laws.lean, Shelf42/LK1.lean); vx_outP calls Shelf42/NT130.lean (outThrough). -/
section
variable {l : Launch} {R : Room} {p : Program} {e : Env} {below : List Frame} {s : State} {sargs : Array Value} {y : MethodName} {len W9 : Nat}
theorem vx_backW {ws : List Cond} {rm : Room} {Pc : Array Value → State → Prop} {Qc : Array Value → State → Outcome → State → Prop} {XC : String → State → State → Prop} {mc ms : Nat} {free : Addr → Prop} {bytes : ByteArray} {maxL : Nat} {ret : Option FieldType} {hh : List (Nat × Nat × Nat × Nat)}
    (hM : vx_Met l y ws rm Pc Qc XC mc ms free) (hblind : FrameBlind Pc) (hrc : rm.cells = mc) (hrs : rm.slots = ms)
    (hframes : rm.frames + 1 ≤ R.frames) (hlocals : W9 + (maxL + 11) + rm.locals ≤ R.locals)
    (hws : ∀ w ∈ ws, ∀ a' U, s.WarmedH U.vm → w.before a' U = true) (hcode : Cond.codeWith y bytes maxL ret hh ∈ ws) (hinit : ∀ a' U, s.WarmedH U.vm → (Cond.initialized y.cls).before a' U = true) :
    vx_Back l R p e below s sargs y len W9 (PreOf R mc ms Pc) (PostOf Qc mc ms free) (vx_Post XC mc ms free) := by
  intro m meth c A g ig mk a X hg hsize hdg hW hn hp
  have h1 : (headSpec ws rm).pre.before a A.U = true := atoms_intro fun w hw => hws w hw _ _ X.warmed
  have h2 : (Cond.codeWith y bytes maxL ret hh).before a A.U = true := hws _ hcode _ _ X.warmed
  have h3 : (Cond.initialized y.cls).before a A.U = true := hinit _ _ X.warmed
  have h4 : A.cells + (headSpec ws rm).room.cells ≤ R.cells := by rw [show (headSpec ws rm).room.cells = mc from hrc]; exact hp.1
  have h5 : A.slots + (headSpec ws rm).room.slots ≤ R.slots := by rw [show (headSpec ws rm).room.slots = ms from hrs]; exact hp.2.1
  have hPc : Pc a (A.U.calling g mk a) := hblind _ _ _ _ hp.2.2
  obtain ⟨U, Ls, c0, s0⟩ := A
  dsimp only [Pt.U, Pt.locs, Pt.cells, Pt.slots] at h1 h2 h3 h4 h5 X hn hPc ⊢
  obtain ⟨m9, methY, cY, hn9, hmY, hcY, -, hlY, -⟩ := Cond.codeWith_spec h2
  cases Option.some.inj (hn9.symm.trans hn)
  obtain ⟨kY, hkY, -⟩ := className_of_methodNamed hn
  have hinitY : kY.init = .initialized := Cond.initialized_spec (findClass_of_methodNamed hn) hkY h3
  have h : At U g.method c below := by rw [hg]; exact X.here
  have hlocals9 : W9 + (maxL + 11) + (headSpec ws rm).room.locals ≤ R.locals := hlocals
  have happ : (headSpec ws rm).appliesLoose y e.platform (U.calling g mk a) = true :=
    Spec.appliesLoose_calling (g := g) h hdg hn hkY hinitY
      (X.room_calling (g := g) (R' := (headSpec ws rm).room) hsize hmY hcY hframes (by rw [hlY]; omega) h4 h5) h1
  obtain ⟨mid, hmid⟩ := h.above
  have hfr : (U.setTop g).frames = (.java g :: mid) ++ below := by rw [State.frames_setTop' g h.top, hmid]; rfl
  obtain ⟨o, s₂, hsteps, -, hend, hq⟩ := Steps.callFree hM p X.admits X.cas X.clock (acts := []) hfr happ hPc trivial
  have hq' : vx_Q Qc XC mc ms free a (U.calling g mk a) o s₂ := hq
  rw [State.frames_setTop' g h.top] at hend
  obtain ⟨g₀, hg0⟩ := Option.isSome_iff_exists.mp h.top
  obtain ⟨r, hr⟩ := State.topJava?_eq_some.mp hg0
  have hr' : (({ U with heap := s₂.heap, slotsUsed := s₂.slotsUsed } : State).setVm s₂.vm).frames = .java g₀ :: r := hr
  rcases hq' with ⟨hqc, L, hfe, hL⟩ | ⟨q, rfl, E, ce, L, hx, hce, hcv, hcl, hW₂, hsm, hL⟩
  · obtain ⟨⟨v, rfl⟩, hW₂, e2, q2, q3, q4, q5, q6⟩ := id hfe
    have e3 : s₂ = ({ (U.calling g mk a).setFrames s₂.frames with heap := s₂.heap, slotsUsed := s₂.slotsUsed } : State).setVm s₂.vm := by
      have : s₂ = ({ s₂ with vm := (U.calling g mk a).vm } : State).setVm s₂.vm := rfl
      rw [e2] at this
      exact this
    obtain ⟨c₂, i₂, len₂, hc₂, hd₂, hf₂⟩ := hend
    have hW' : U.WarmedH s₂.vm := hW₂
    have hcc : c₂ = c := by
      have h1 : s₂.code? g.method = U.code? g.method := by
        rw [State.code?_eq, State.code?_eq, hW'.alike.method?]
      exact Option.some.inj (hc₂.symm.trans (h1.trans h.code))
    subst hcc
    have hlen : len₂ = len := by rw [hdg] at hd₂; cases hd₂; rfl
    subst hlen
    have hs₂ : s₂ = (({ U with heap := s₂.heap, slotsUsed := s₂.slotsUsed } : State).setVm s₂.vm).setTop { g with pc := g.pc + len₂, stack := v.toList ++ g.stack } := by
      refine e3.trans ?_
      rw [hf₂, State.calling_eq h.top, State.setFrames_setFrames, State.setTop_of_frames _ hr', hr]
      rfl
    have hsame : U.sameButNew ({ U with heap := s₂.heap, slotsUsed := s₂.slotsUsed } : State) L mc ms := by
      refine ⟨?_, q2, q3, q4, q5, q6⟩
      obtain ⟨t, ht, -⟩ := State.frames_cons hr
      show ({ U with heap := s₂.heap, slotsUsed := s₂.slotsUsed } : State) = { U.setFrames U.frames with heap := s₂.heap, slotsUsed := s₂.slotsUsed }
      rw [State.setFrames_self ht]
    subst hg
    refine Or.inl ⟨v, ⟨(({ U with heap := s₂.heap, slotsUsed := s₂.slotsUsed } : State).setVm s₂.vm), Ls ++ L, c0 + mc, s0 + ms⟩,
      ⟨X.admits, X.cas, X.clock, X.frames, X.room, X.hears, X.method, X.code, (X.here.setHeapUsed s₂.heap s₂.slotsUsed).setVm hW'.alike, X.tail, State.WarmedH.trans X.warmed hW', X.limits, X.bytes, X.same.trans (hsame.setVm s.vm)⟩,
      ⟨g, mk, s₂, L, rfl, rfl, hqc, rfl, hL, rfl, rfl⟩, ?_⟩
    show Steps p.tables e below _ ((({ U with heap := s₂.heap, slotsUsed := s₂.slotsUsed } : State).setVm s₂.vm).setTop { g with pc := g.pc + len₂, stack := v.toList ++ g.stack })
    rw [← hs₂]
    exact hsteps
  · obtain ⟨e2, q2, q3, q4, q5, q6⟩ := id hsm
    have e3 : s₂ = ({ (U.calling g mk a).setFrames s₂.frames with heap := s₂.heap, slotsUsed := s₂.slotsUsed } : State).setVm s₂.vm := by
      have : s₂ = ({ s₂ with vm := (U.calling g mk a).vm } : State).setVm s₂.vm := rfl
      rw [e2] at this
      exact this
    have hf₂ : s₂.frames = .throwing q :: .java g :: U.frames.tail := hend
    have hW' : U.WarmedH s₂.vm := hW₂
    have hs₂ : s₂ = ((({ U with heap := s₂.heap, slotsUsed := s₂.slotsUsed } : State).setVm s₂.vm).setTop g).pushFrame (.throwing q) := by
      refine e3.trans ?_
      rw [hf₂, State.calling_eq h.top, State.setFrames_setFrames, State.pushFrame, State.frames_setTop _ hr', State.setTop_of_frames _ hr', State.setFrames_setFrames, hr]
      rfl
    have hsame : U.sameButNew ({ U with heap := s₂.heap, slotsUsed := s₂.slotsUsed } : State) L mc ms := by
      refine ⟨?_, q2, q3, q4, q5, q6⟩
      obtain ⟨t, ht, -⟩ := State.frames_cons hr
      show ({ U with heap := s₂.heap, slotsUsed := s₂.slotsUsed } : State) = { U.setFrames U.frames with heap := s₂.heap, slotsUsed := s₂.slotsUsed }
      rw [State.setFrames_self ht]
    subst hg
    refine Or.inr ⟨q, ⟨(({ U with heap := s₂.heap, slotsUsed := s₂.slotsUsed } : State).setVm s₂.vm), Ls ++ L, c0 + mc, s0 + ms⟩,
      ⟨X.admits, X.cas, X.clock, X.frames, X.room, X.hears, X.method, X.code, (X.here.setHeapUsed s₂.heap s₂.slotsUsed).setVm hW'.alike, X.tail, State.WarmedH.trans X.warmed hW', X.limits, X.bytes, X.same.trans (hsame.setVm s.vm)⟩,
      ⟨g, mk, s₂, L, E, ce, rfl, rfl, hx, hce, hcv, hcl, rfl, hL, rfl, rfl⟩, ?_⟩
    show Steps p.tables e below _ (((({ U with heap := s₂.heap, slotsUsed := s₂.slotsUsed } : State).setVm s₂.vm).setTop g).pushFrame (.throwing q))
    rw [← hs₂]
    exact hsteps
end
variable {p : Program} {l : Launch} {e : Env} {R : Room} {s : State} {m : MethodId} {args : Array Value} {below : List Frame} {meth : Method} {c : Code} {T : State} {H : Heap} {locs : List Loc} {cells slots : Nat}
theorem vx_callVX (X : Stand p l e R s m args below meth c T locs cells slots) (hexec : p.tables.exec = Jvm.exec) {own C : String} {index : Nat} {y : MethodName} {bytes : ByteArray} {maxL : Nat} {ret : Option FieldType} {hh : List (Nat × Nat × Nat × Nat)}
    (hown : s.vm.findClass own = some m.cls) (hlink : (Cond.methodLink own index y).before args s = true) (hinst : (Cond.instanceMethod y).before args s = true) (hsel : (Cond.selects C y y).before args s = true)
    (hcode : (Cond.codeWith y bytes maxL ret hh).before args s = true) (hy : y.cls ≠ "java/lang/invoke/MethodHandle" ∧ y.cls ≠ "java/lang/invoke/VarHandle")
    {W9 : Nat} {Pre : Pt → Array Value → Prop} {Post : Pt → Array Value → Option Value → Pt → Prop} {PostX : Pt → Array Value → Addr → Pt → Prop} (hK : vx_Back l R p e below s args y 3 W9 Pre Post PostX)
    {b : Addr} {cellB : Cell} (hcell : T.heap[b]? = some cellB) (hobj : cellB.vm.isStatics = false) (hcls : s.vm.findClass C = some cellB.cls)
    {g : JFrame} (hg : g.method = m) (hsize : g.locals.size = c.maxLocals) {argsL rest : List Value} (hlen : ∀ sig, parseMethodDescriptor y.desc = some sig → argsL.length = sig.parameters.length)
    (hstack : g.stack = argsL.reverse ++ .ref b :: rest) (hW : 2 * g.monitorRoom + (rest.map fun v => v.category).sum ≤ W9) (hdg : decode c.code g.pc = .ok (.invokevirtual index, 3))
    (hpre : ∀ vm₁, s.WarmedH vm₁ → Pre ⟨T.setVm vm₁, locs, cells, slots⟩ (Value.ref b :: argsL).toArray) :
    (∃ (v : Option Value) (vm₁ : Vm) (B : Pt), s.WarmedH vm₁ ∧ Stand p l e R s m args below meth c B.U B.locs B.cells B.slots ∧ Post ⟨T.setVm vm₁, locs, cells, slots⟩ (Value.ref b :: argsL).toArray v B ∧
      ∀ target, Steps p.tables e below (B.U.setTop { g with pc := g.pc + 3, stack := v.toList ++ rest }) target → Steps p.tables e below (T.setTop g) target) ∨
    (∃ (q : Addr) (vm₁ : Vm) (B : Pt), s.WarmedH vm₁ ∧ Stand p l e R s m args below meth c B.U B.locs B.cells B.slots ∧ PostX ⟨T.setVm vm₁, locs, cells, slots⟩ (Value.ref b :: argsL).toArray q B ∧
      Steps p.tables e below (T.setTop g) ((B.U.setTop { g with stack := rest }).pushFrame (.throwing q))) := by
  obtain ⟨mk, methM, hnamed, hmethM, hstM, habM⟩ := Cond.instanceMethod_spec hinst
  obtain ⟨m8, methM', cM, hn8, hmethM', -, -, -, -, -, -, hsigM⟩ := Cond.codeWith_spec hcode
  cases Option.some.inj (hn8.symm.trans hnamed)
  cases hmethM.symm.trans hmethM'
  obtain ⟨c2, r2, m2, q1, q2, q3, q4, kP, hkP, hkPi⟩ := Cond.selects_spec hsel
  cases hcls.symm.trans q1
  cases (State.methodFound?_of_named hnamed hy).symm.trans q2
  cases hnamed.symm.trans q3
  have hselP : selectMethod e.platform s.vm cellB.cls mk = .method mk := by rw [Launch.admits_selectMethod X.admits]; exact q4
  obtain ⟨vm₁, X₁, hstep₁⟩ := X.invokevirtual hexec hown hlink hnamed hmethM hstM hkP hkPi hy (a := b) (cell := cellB) hcell
    (fun z h => by rw [h] at hobj; cases hobj) hselP hmethM habM hkP hkPi (g := g) hg (argsL := argsL) (rest := rest) (hlen _ hsigM) hstack hdg
  rcases hK m meth c ⟨T.setVm vm₁, locs, cells, slots⟩ { g with stack := rest } (.invokevirtual index) mk (Value.ref b :: argsL).toArray X₁ hg hsize hdg hW (X₁.named hnamed) (hpre vm₁ X₁.warmed) with ⟨v, B, X', hpost, hsteps⟩ | ⟨q, B, X', hpost, hsteps⟩
  · exact Or.inl ⟨v, vm₁, B, X₁.warmed, X', hpost, fun target h => hstep₁ _ fun acts => by rw [doInvoke_state]; exact hsteps.trans h⟩
  · exact Or.inr ⟨q, vm₁, B, X₁.warmed, X', hpost, hstep₁ _ fun acts => by rw [doInvoke_state]; exact hsteps⟩
theorem vx_callSX (X : Stand p l e R s m args below meth c T locs cells slots) (hexec : p.tables.exec = Jvm.exec) {own : String} {index : Nat} {y : MethodName} {bytes : ByteArray} {maxL : Nat} {ret : Option FieldType} {hh : List (Nat × Nat × Nat × Nat)}
    (hown : s.vm.findClass own = some m.cls) (hlink : (Cond.methodLink own index y).before args s = true) (hstat : (Cond.static y).before args s = true) (hinit : (Cond.initialized y.cls).before args s = true)
    (hcode : (Cond.codeWith y bytes maxL ret hh).before args s = true) (hy : y.cls ≠ "java/lang/invoke/MethodHandle" ∧ y.cls ≠ "java/lang/invoke/VarHandle")
    {W9 : Nat} {Pre : Pt → Array Value → Prop} {Post : Pt → Array Value → Option Value → Pt → Prop} {PostX : Pt → Array Value → Addr → Pt → Prop} (hK : vx_Back l R p e below s args y 3 W9 Pre Post PostX)
    {g : JFrame} (hg : g.method = m) (hsize : g.locals.size = c.maxLocals) {argsL rest : List Value} (hlen : ∀ sig, parseMethodDescriptor y.desc = some sig → argsL.length = sig.parameters.length)
    (hstack : g.stack = argsL.reverse ++ rest) (hW : 2 * g.monitorRoom + (rest.map fun v => v.category).sum ≤ W9) (hdg : decode c.code g.pc = .ok (.invokestatic index, 3))
    (hpre : ∀ vm₁, s.WarmedH vm₁ → Pre ⟨T.setVm vm₁, locs, cells, slots⟩ argsL.toArray) :
    (∃ (v : Option Value) (vm₁ : Vm) (B : Pt), s.WarmedH vm₁ ∧ Stand p l e R s m args below meth c B.U B.locs B.cells B.slots ∧ Post ⟨T.setVm vm₁, locs, cells, slots⟩ argsL.toArray v B ∧
      ∀ target, Steps p.tables e below (B.U.setTop { g with pc := g.pc + 3, stack := v.toList ++ rest }) target → Steps p.tables e below (T.setTop g) target) ∨
    (∃ (q : Addr) (vm₁ : Vm) (B : Pt), s.WarmedH vm₁ ∧ Stand p l e R s m args below meth c B.U B.locs B.cells B.slots ∧ PostX ⟨T.setVm vm₁, locs, cells, slots⟩ argsL.toArray q B ∧
      Steps p.tables e below (T.setTop g) ((B.U.setTop { g with stack := rest }).pushFrame (.throwing q))) := by
  obtain ⟨mk, methM, cM, hnamed, hmethM, -, -, -, -, -, -, hsigM⟩ := Cond.codeWith_spec hcode
  have hstatic : methM.isStatic = true := Cond.static_spec hnamed hmethM hstat
  obtain ⟨kP, hkP, -⟩ := className_of_methodNamed hnamed
  have hinitP : kP.init = .initialized := Cond.initialized_spec (findClass_of_methodNamed hnamed) hkP hinit
  obtain ⟨vm₁, X₁, hstep₁⟩ := X.invokestatic hexec hown hlink hnamed hmethM hstatic hkP hinitP hy (g := g) hg (argsL := argsL) (rest := rest) (hlen _ hsigM) hstack hdg
  rcases hK m meth c ⟨T.setVm vm₁, locs, cells, slots⟩ { g with stack := rest } (.invokestatic index) mk argsL.toArray X₁ hg hsize hdg hW (X₁.named hnamed) (hpre vm₁ X₁.warmed) with ⟨v, B, X', hpost, hsteps⟩ | ⟨q, B, X', hpost, hsteps⟩
  · exact Or.inl ⟨v, vm₁, B, X₁.warmed, X', hpost, fun target h => hstep₁ _ fun acts => by rw [doInvoke_state]; exact hsteps.trans h⟩
  · exact Or.inr ⟨q, vm₁, B, X₁.warmed, X', hpost, hstep₁ _ fun acts => by rw [doInvoke_state]; exact hsteps⟩
theorem vx_callVW (X : Stand p l e R s m args below meth c T locs cells slots) (hexec : p.tables.exec = Jvm.exec) {own C : String} {index : Nat} {y : MethodName} {bytes : ByteArray} {maxL : Nat} {ret : Option FieldType} {hh : List (Nat × Nat × Nat × Nat)}
    (hown : s.vm.findClass own = some m.cls) (hlink : (Cond.methodLink own index y).before args s = true) (hinst : (Cond.instanceMethod y).before args s = true) (hsel : (Cond.selects C y y).before args s = true)
    (hcode : (Cond.codeWith y bytes maxL ret hh).before args s = true) (hy : y.cls ≠ "java/lang/invoke/MethodHandle" ∧ y.cls ≠ "java/lang/invoke/VarHandle")
    {W9 : Nat} {Pre : Pt → Array Value → Prop} {Post : Pt → Array Value → Option Value → Pt → Prop} (hK : Back l R p e below s args y 3 W9 Pre Post)
    {b : Addr} {cellB : Cell} (hcell : T.heap[b]? = some cellB) (hobj : cellB.vm.isStatics = false) (hcls : s.vm.findClass C = some cellB.cls)
    {g : JFrame} (hg : g.method = m) (hsize : g.locals.size = c.maxLocals) {argsL rest : List Value} (hlen : ∀ sig, parseMethodDescriptor y.desc = some sig → argsL.length = sig.parameters.length)
    (hstack : g.stack = argsL.reverse ++ .ref b :: rest) (hW : 2 * g.monitorRoom + (rest.map fun v => v.category).sum ≤ W9) (hdg : decode c.code g.pc = .ok (.invokevirtual index, 3))
    (hpre : ∀ vm₁, s.WarmedH vm₁ → Pre ⟨T.setVm vm₁, locs, cells, slots⟩ (Value.ref b :: argsL).toArray) :
    ∃ (v : Option Value) (vm₁ : Vm) (B : Pt), s.WarmedH vm₁ ∧ Stand p l e R s m args below meth c B.U B.locs B.cells B.slots ∧ Post ⟨T.setVm vm₁, locs, cells, slots⟩ (Value.ref b :: argsL).toArray v B ∧
      ∀ target, Steps p.tables e below (B.U.setTop { g with pc := g.pc + 3, stack := v.toList ++ rest }) target → Steps p.tables e below (T.setTop g) target := by
  obtain ⟨mk, methM, hnamed, hmethM, hstM, habM⟩ := Cond.instanceMethod_spec hinst
  obtain ⟨m8, methM', cM, hn8, hmethM', -, -, -, -, -, -, hsigM⟩ := Cond.codeWith_spec hcode
  cases Option.some.inj (hn8.symm.trans hnamed)
  cases hmethM.symm.trans hmethM'
  obtain ⟨c2, r2, m2, q1, q2, q3, q4, kP, hkP, hkPi⟩ := Cond.selects_spec hsel
  cases hcls.symm.trans q1
  cases (State.methodFound?_of_named hnamed hy).symm.trans q2
  cases hnamed.symm.trans q3
  have hselP : selectMethod e.platform s.vm cellB.cls mk = .method mk := by rw [Launch.admits_selectMethod X.admits]; exact q4
  obtain ⟨vm₁, X₁, hstep₁⟩ := X.invokevirtual hexec hown hlink hnamed hmethM hstM hkP hkPi hy (a := b) (cell := cellB) hcell
    (fun z h => by rw [h] at hobj; cases hobj) hselP hmethM habM hkP hkPi (g := g) hg (argsL := argsL) (rest := rest) (hlen _ hsigM) hstack hdg
  obtain ⟨v, B, X', hpost, hsteps⟩ := hK m meth c ⟨T.setVm vm₁, locs, cells, slots⟩ { g with stack := rest } (.invokevirtual index) mk (Value.ref b :: argsL).toArray X₁ hg hsize hdg hW (X₁.named hnamed) (hpre vm₁ X₁.warmed)
  exact ⟨v, vm₁, B, X₁.warmed, X', hpost, fun target h => hstep₁ _ fun acts => by rw [doInvoke_state]; exact hsteps.trans h⟩
abbrev vx_CVW (R : Room) (s : State) (args : Array Value) (own C : String) (index : Nat) (y : MethodName) (bytes : ByteArray) (maxL : Nat) (ret : Option FieldType) (hh : List (Nat × Nat × Nat × Nat)) (ws : List Cond) (rm : Room) (mc ms n : Nat) : Prop :=
  (rm.cells = mc ∧ rm.slots = ms ∧ rm.frames + 1 ≤ R.frames ∧ 8 + (maxL + 11) + rm.locals ≤ R.locals ∧ (∀ w ∈ ws, ∀ (a' : Array Value) (U : State), s.WarmedH U.vm → w.before a' U = true) ∧ Cond.codeWith y bytes maxL ret hh ∈ ws) ∧
  (Cond.codeWith y bytes maxL ret hh).before args s = true ∧ (Cond.initialized y.cls).before args s = true ∧ (y.cls ≠ "java/lang/invoke/MethodHandle" ∧ y.cls ≠ "java/lang/invoke/VarHandle") ∧
  (∀ sig, parseMethodDescriptor y.desc = some sig → n = sig.parameters.length) ∧ (Cond.methodLink own index y).before args s = true ∧ (Cond.instanceMethod y).before args s = true ∧ (Cond.selects C y y).before args s = true
theorem vx_cwVW {own C : String} {index maxL mc ms : Nat} {y : MethodName} {bytes : ByteArray} {ret : Option FieldType} {hh : List (Nat × Nat × Nat × Nat)} {Ts ws ws' : List Cond} {rm : Room} (n : Nat) (ht : ∀ w ∈ Ts, w.before args s = true) (hT : GoodIn Ts (wsV own index C y ws)) (hw : ws = Cond.codeWith y bytes maxL ret hh :: ws') (hrc : rm.cells = mc) (hrs : rm.slots = ms)
    (hd : y.cls = C ∧ y.cls ≠ "java/lang/invoke/MethodHandle" ∧ y.cls ≠ "java/lang/invoke/VarHandle" ∧ (parseMethodDescriptor y.desc).map (fun d => d.parameters.length) = some n) (hR : rm.frames + 1 ≤ R.frames ∧ 8 + (maxL + 11) + rm.locals ≤ R.locals) :
    vx_CVW R s args own C index y bytes maxL ret hh ws rm mc ms n := by
  obtain ⟨hC, hd⟩ := hd
  subst hC
  have ok : ∀ w ∈ wsV own index y.cls y ws, w.before args s = true := fun w h => ht w (hT w h).1
  have hG : GoodIn Ts ws := fun w h => hT w (by unfold wsV; exact List.mem_append_right _ h)
  have hc : Cond.codeWith y bytes maxL ret hh ∈ ws := by rw [hw]; exact List.mem_cons_self
  refine ⟨⟨hrc, hrs, hR.1, hR.2, pay_in ht hG, hc⟩, ht _ (hG _ hc).1, ok _ (by simp [wsV]), ⟨hd.1, hd.2.1⟩, fun sig h => ?_, ok _ (by simp [wsV]), ok _ (by simp [wsV]), ok _ (by simp [wsV])⟩
  have h2 := hd.2.2
  rw [h] at h2
  exact (Option.some.inj h2).symm
theorem vx_runVW {y : MethodName} {bytes cc : ByteArray} {maxL nL mc ms n index : Nat} {ret : Option FieldType} {hh : List (Nat × Nat × Nat × Nat)} {ws : List Cond} {rm : Room} {Pc : Array Value → State → Prop} {Qc : Array Value → State → Outcome → State → Prop} {free : Addr → Prop} {Ts : List Cond} {own C : String} {b : Addr} {As rest : List Value} {g : JFrame}
    (S : CallFix p m c cc nL s args Ts own) (hM : Met l y ws rm Pc Qc mc ms free) (cw : vx_CVW R s args own C index y bytes maxL ret hh ws rm mc ms n) (hp : PreV s H C b Pc As)
    (hg : g.method = m) (hn : As.length = n) (hsize : g.locals.size = nL) (hstack : g.stack = As.reverse ++ .ref b :: rest) (hW : 2 * g.monitorRoom + (rest.map fun v => v.category).sum ≤ 8) (hdg : decode cc g.pc = .ok (.invokevirtual index, 3)) (hf : cells + mc ≤ R.cells ∧ slots + ms ≤ R.slots) :
    va_Run p l e R s m args below meth c H locs cells slots mc ms g rest (Qc (Value.ref b :: As).toArray) free := by
  obtain ⟨⟨hrc, hrs, hfr, hlo, hws, hcw⟩, hcode, hini, hy, hlen, hl, hin, hse⟩ := cw
  have hK : Back l R p e below s args y 3 8 (PreOf R mc ms Pc) (PostOf Qc mc ms free) := va_backW (hh := hh) (bytes := bytes) (maxL := maxL) (ret := ret) hM hp.1 hrc hrs hfr hlo hws hcw (fun a' U hW => word_at hW (Or.inl (by first | rfl | simp [Cond.onTables, Cond.keeps, Cond.steady])) hini)
  obtain ⟨hx, hb, hml, ho, -⟩ := S
  obtain ⟨-, ⟨cellB, hcB, hoB, hclB⟩, hPc⟩ := hp
  intro T hT X
  obtain ⟨v, vm₁, ⟨U', l2, c2, s2⟩, hW₁, X', ⟨g', mk, t, L, e1, e2, hq, h1, hL, h2, h3⟩, st⟩ := vx_callVW X hx (C := C) (hh := hh) (bytes := bytes) (maxL := maxL) (ret := ret) ho hl hin hse hcode hy hK (by rw [hT]; exact hcB) hoB hclB hg (hsize.trans hml.symm) (argsL := As) (rest := rest) (fun sig h => hn.trans (hlen sig h)) hstack hW (by rw [hb]; exact hdg)
    (fun vm₁ hW₁ => ⟨hf.1, hf.2, hPc (T.setVm vm₁) hT hW₁⟩)
  dsimp only [Pt.U, Pt.locs, Pt.cells, Pt.slots] at X' e1 e2 h1 h2 h3 st
  subst h1; subst h2; subst h3
  exact ⟨v, (T.setVm vm₁).calling g' mk (Value.ref b :: As).toArray, t, U', L, hT, X', hL, e1, e2, hq, st⟩
section
variable {y : MethodName} {bytes cc : ByteArray} {maxL nL mc ms n index : Nat} {ret : Option FieldType} {ws : List Cond} {rm : Room} {Pc : Array Value → State → Prop} {Qc : Array Value → State → Outcome → State → Prop} {XC : String → State → State → Prop} {free : Addr → Prop} {Ts : List Cond} {own C : String} {b : Addr} {As rest : List Value} {g : JFrame}
theorem vx_runVX {hh : List (Nat × Nat × Nat × Nat)} (S : CallFix p m c cc nL s args Ts own) (hM : vx_Met l y ws rm Pc Qc XC mc ms free) (cw : vx_CVW R s args own C index y bytes maxL ret hh ws rm mc ms n) (hp : PreV s H C b Pc As)
    (hg : g.method = m) (hn : As.length = n) (hsize : g.locals.size = nL) (hstack : g.stack = As.reverse ++ .ref b :: rest) (hW : 2 * g.monitorRoom + (rest.map fun v => v.category).sum ≤ 8) (hdg : decode cc g.pc = .ok (.invokevirtual index, 3)) (hf : cells + mc ≤ R.cells ∧ slots + ms ≤ R.slots) :
    vx_Run p l e R s m args below meth c H locs cells slots mc ms g rest (Qc (Value.ref b :: As).toArray) XC free := by
  obtain ⟨⟨hrc, hrs, hfr, hlo, hws, hcw⟩, hcode, hini, hy, hlen, hl, hin, hse⟩ := cw
  have hK : vx_Back l R p e below s args y 3 8 (PreOf R mc ms Pc) (PostOf Qc mc ms free) (vx_Post XC mc ms free) := vx_backW (hh := hh) (bytes := bytes) (maxL := maxL) (ret := ret) hM hp.1 hrc hrs hfr hlo hws hcw (fun a' U hW => word_at hW (Or.inl (by first | rfl | simp [Cond.onTables, Cond.keeps, Cond.steady])) hini)
  obtain ⟨hx, hb, hml, ho, -⟩ := S
  obtain ⟨-, ⟨cellB, hcB, hoB, hclB⟩, hPc⟩ := hp
  intro T hT X
  rcases vx_callVX X hx (C := C) (hh := hh) (bytes := bytes) (maxL := maxL) (ret := ret) ho hl hin hse hcode hy hK (by rw [hT]; exact hcB) hoB hclB hg (hsize.trans hml.symm) (argsL := As) (rest := rest) (fun sig h => hn.trans (hlen sig h)) hstack hW (by rw [hb]; exact hdg)
    (fun vm₁ hW₁ => ⟨hf.1, hf.2, hPc (T.setVm vm₁) hT hW₁⟩) with ⟨v, vm₁, ⟨U', l2, c2, s2⟩, hW₁, X', ⟨g', mk, t, L, e1, e2, hq, h1, hL, h2, h3⟩, st⟩ | ⟨q, vm₁, ⟨U', l2, c2, s2⟩, hW₁, X', ⟨g', mk, t, L, E, ce, e1, e2, hq, hce, hcv, hcl, h1, hL, h2, h3⟩, st⟩
  · dsimp only [Pt.U, Pt.locs, Pt.cells, Pt.slots] at X' e1 e2 h1 h2 h3 st
    subst h1; subst h2; subst h3
    exact Or.inl ⟨v, (T.setVm vm₁).calling g' mk (Value.ref b :: As).toArray, t, U', L, hT, X', hL, e1, e2, hq, st⟩
  · dsimp only [Pt.U, Pt.locs, Pt.cells, Pt.slots] at X' e1 e2 h1 h2 h3 st hcl
    subst h1; subst h2; subst h3
    exact Or.inr ⟨q, (T.setVm vm₁).calling g' mk (Value.ref b :: As).toArray, t, U', L, E, ce, hT, X', hL, e1, e2, hq, hce, hcv, vx_cls hW₁ hcl, st⟩
theorem vx_runSX {hh : List (Nat × Nat × Nat × Nat)} (S : CallFix p m c cc nL s args Ts own) (hM : vx_Met l y ws rm Pc Qc XC mc ms free) (cw : vx_CSW R s args own index y bytes maxL ret hh ws rm mc ms n) (hp : PreS s H Pc As)
    (hg : g.method = m) (hn : As.length = n) (hsize : g.locals.size = nL) (hstack : g.stack = As.reverse ++ rest) (hW : 2 * g.monitorRoom + (rest.map fun v => v.category).sum ≤ 8) (hdg : decode cc g.pc = .ok (.invokestatic index, 3)) (hf : cells + mc ≤ R.cells ∧ slots + ms ≤ R.slots) :
    vx_Run p l e R s m args below meth c H locs cells slots mc ms g rest (Qc As.toArray) XC free := by
  obtain ⟨⟨hrc, hrs, hfr, hlo, hws, hcw⟩, hcode, hini, hy, hlen, hl, hstt⟩ := cw
  have hK : vx_Back l R p e below s args y 3 8 (PreOf R mc ms Pc) (PostOf Qc mc ms free) (vx_Post XC mc ms free) := vx_backW (hh := hh) (bytes := bytes) (maxL := maxL) (ret := ret) hM hp.1 hrc hrs hfr hlo hws hcw (fun a' U hW => word_at hW (Or.inl (by first | rfl | simp [Cond.onTables, Cond.keeps, Cond.steady])) hini)
  obtain ⟨hx, hb, hml, ho, -⟩ := S
  intro T hT X
  rcases vx_callSX X hx (hh := hh) (bytes := bytes) (maxL := maxL) (ret := ret) ho hl hstt hini hcode hy hK hg (hsize.trans hml.symm) (argsL := As) (rest := rest) (fun sig h => hn.trans (hlen sig h)) hstack hW (by rw [hb]; exact hdg)
    (fun vm₁ hW₁ => ⟨hf.1, hf.2, hp.2 (T.setVm vm₁) hT hW₁⟩) with ⟨v, vm₁, ⟨U', l2, c2, s2⟩, hW₁, X', ⟨g', mk, t, L, e1, e2, hq, h1, hL, h2, h3⟩, st⟩ | ⟨q, vm₁, ⟨U', l2, c2, s2⟩, hW₁, X', ⟨g', mk, t, L, E, ce, e1, e2, hq, hce, hcv, hcl, h1, hL, h2, h3⟩, st⟩
  · dsimp only [Pt.U, Pt.locs, Pt.cells, Pt.slots] at X' e1 e2 h1 h2 h3 st
    subst h1; subst h2; subst h3
    exact Or.inl ⟨v, (T.setVm vm₁).calling g' mk As.toArray, t, U', L, hT, X', hL, e1, e2, hq, st⟩
  · dsimp only [Pt.U, Pt.locs, Pt.cells, Pt.slots] at X' e1 e2 h1 h2 h3 st hcl
    subst h1; subst h2; subst h3
    exact Or.inr ⟨q, (T.setVm vm₁).calling g' mk As.toArray, t, U', L, E, ce, hT, X', hL, e1, e2, hq, hce, hcv, vx_cls hW₁ hcl, st⟩
end
end VXH
theorem vx_ofWH {l : Launch} {y : MethodName} {ws ws' : List Cond} {rm : Room} {Pc : Array Value → State → Prop} {Qc : Array Value → State → Outcome → State → Prop} {XC : String → State → State → Prop} {mc ms : Nat} {free : Addr → Prop} {cc : ByteArray} {maxL : Nat} {ret : Option FieldType} {hh : List (Nat × Nat × Nat × Nat)}
    (hy : plainName y.cls = true) (hw : ws = Cond.codeWith y cc maxL ret hh :: ws')
    (body : ∀ p e s m args below meth c s₁, BodyLoose p l y (headSpec ws rm) cc maxL ret e s m args below meth c s₁ → c.maxLocals = maxL → Pc args s →
      W p l e (headSpec ws rm).room s m args below meth c s.heap [] 0 0 (vx_MQ below Qc XC args s mc ms free) (entryFrame m args maxL)) : vx_Met l y ws rm Pc Qc XC mc ms free := by
  refine MetFree.of_bodyS (code := cc) (maxLocals := maxL) (ret := ret) hy ?_ ?_
  · intro args s m h hn
    obtain ⟨m9, meth, c, hn9, h1, h2, h3, h4, -, h5, h6, -⟩ := Cond.codeWith_spec (atoms_spec (ws := ws) h _ (by rw [hw]; exact List.mem_cons_self))
    cases hn.symm.trans hn9
    exact ⟨meth, c, h1, h2, h3, h4, h5, h6⟩
  · intro p e s m args below meth c s₁ B hml hP _
    have hh0 : s₁.heap = s.heap := by rw [B.state]; rfl
    obtain ⟨t, a1, o, b1, b2, b3⟩ := body p e s m args below meth c s₁ B hml hP s₁ hh0 (Stand.of_body B)
    exact ⟨t, o, a1, b1, b2, b3⟩
/-! ===== END ===== -/
end
section
/-! ===== BEGIN printed: names, fields, word lists, decode rows ===== -/
def RX0 : String := "RowPages$Index"
def TX0 : u_T := fun k => match k with
  | 0 => ("RowPages$Index", "places", "[[I", true)
  | _ => ("RowPages$Index", "counts", "[I", true)
def tyX0 : Nat → FieldType := fun k => match k with
  | 0 => .array (.array .int)
  | _ => .array .int
abbrev wsX00 : List Cond := u_ws RX0 TX0 2
theorem nmX0 : ∀ a, a < 2 → ∀ b, b < 2 → a ≠ b → (TX0 a).2.1 ≠ (TX0 b).2.1 := by decide +kernel
theorem tyX0_ok : ∀ k, k < 2 → parseFieldDescriptor (TX0 k).2.2.1 = some (tyX0 k) := by decide +kernel
abbrev cX0_init : ByteArray := prog_2_method_1_code
def yX0_init : MethodName := ⟨RX0, "<init>", "()V"⟩
abbrev cX0_add : ByteArray := prog_2_method_2_code
def yX0_add : MethodName := ⟨RX0, "add", "(II)V"⟩
abbrev cX0_move : ByteArray := prog_2_method_3_code
def yX0_move : MethodName := ⟨RX0, "move", "(III)V"⟩
def RX1 : String := "RowPages$Slots"
def TX1 : u_T := fun k => match k with
  | 0 => ("RowPages$Slots", "keys", "[I", true)
  | 1 => ("RowPages$Slots", "values", "[I", true)
  | 2 => ("RowPages$Slots", "births", "[I", true)
  | 3 => ("RowPages$Slots", "birthStamps", "[I", true)
  | 4 => ("RowPages$Slots", "frozen", "[Z", true)
  | 5 => ("RowPages$Slots", "deaths", "[I", true)
  | 6 => ("RowPages$Slots", "deathStamps", "[I", true)
  | 7 => ("RowPages$Slots", "nexts", "[I", true)
  | _ => ("RowPages$Slots", "rows", "[I", true)
def tyX1 : Nat → FieldType := fun k => match k with
  | 0 => .array .int
  | 1 => .array .int
  | 2 => .array .int
  | 3 => .array .int
  | 4 => .array .boolean
  | 5 => .array .int
  | 6 => .array .int
  | 7 => .array .int
  | _ => .array .int
abbrev wsX10 : List Cond := u_ws RX1 TX1 9
theorem nmX1 : ∀ a, a < 9 → ∀ b, b < 9 → a ≠ b → (TX1 a).2.1 ≠ (TX1 b).2.1 := by decide +kernel
theorem tyX1_ok : ∀ k, k < 9 → parseFieldDescriptor (TX1 k).2.2.1 = some (tyX1 k) := by decide +kernel
abbrev cX1_init : ByteArray := prog_3_method_1_code
def yX1_init : MethodName := ⟨RX1, "<init>", "()V"⟩
abbrev cX1_empty : ByteArray := prog_3_method_2_code
def yX1_empty : MethodName := ⟨RX1, "empty", "(I)V"⟩
abbrev cX1_isUsed : ByteArray := prog_3_method_3_code
def yX1_isUsed : MethodName := ⟨RX1, "isUsed", "(I)Z"⟩
abbrev cX1_hasDeath : ByteArray := prog_3_method_4_code
def yX1_hasDeath : MethodName := ⟨RX1, "hasDeath", "(I)Z"⟩
abbrev cX1_lowestFree : ByteArray := prog_3_method_5_code
def yX1_lowestFree : MethodName := ⟨RX1, "lowestFree", "(II)I"⟩
abbrev cX1_takeOffDeaths : ByteArray := prog_3_method_6_code
def yX1_takeOffDeaths : MethodName := ⟨RX1, "takeOffDeaths", "(I)V"⟩
abbrev cX1_bypass : ByteArray := prog_3_method_7_code
def yX1_bypass : MethodName := ⟨RX1, "bypass", "(II)V"⟩
def RX2 : String := "RowPages$Table"
def TX2 : u_T := fun k => match k with
  | 0 => ("RowPages$Table", "keys", "[I", true)
  | 1 => ("RowPages$Table", "values", "[I", true)
  | 2 => ("RowPages$Table", "births", "[I", true)
  | 3 => ("RowPages$Table", "deaths", "[I", true)
  | _ => ("RowPages$Table", "count", "I", false)
def tyX2 : Nat → FieldType := fun k => match k with
  | 0 => .array .int
  | 1 => .array .int
  | 2 => .array .int
  | 3 => .array .int
  | _ => .int
abbrev wsX20 : List Cond := u_ws RX2 TX2 5
theorem nmX2 : ∀ a, a < 5 → ∀ b, b < 5 → a ≠ b → (TX2 a).2.1 ≠ (TX2 b).2.1 := by decide +kernel
theorem tyX2_ok : ∀ k, k < 5 → parseFieldDescriptor (TX2 k).2.2.1 = some (tyX2 k) := by decide +kernel
abbrev cX2_init : ByteArray := prog_4_method_1_code
def yX2_init : MethodName := ⟨RX2, "<init>", "()V"⟩
abbrev cX2_add : ByteArray := prog_4_method_2_code
def yX2_add : MethodName := ⟨RX2, "add", "(III)I"⟩
abbrev cX2_putDeath : ByteArray := prog_4_method_3_code
def yX2_putDeath : MethodName := ⟨RX2, "putDeath", "(II)V"⟩
abbrev cX2_takeOffDeaths : ByteArray := prog_4_method_4_code
def yX2_takeOffDeaths : MethodName := ⟨RX2, "takeOffDeaths", "(I)V"⟩
def RX3 : String := "RowPages$Transactions"
def TX3 : u_T := fun k => match k with
  | 0 => ("RowPages$Transactions", "stamps", "[I", true)
  | 1 => ("RowPages$Transactions", "snapshots", "[J", true)
  | 2 => ("RowPages$Transactions", "count", "I", false)
  | 3 => ("RowPages$Transactions", "nextStamp", "I", false)
  | 4 => ("RowPages$Transactions", "active", "J", false)
  | _ => ("RowPages$Transactions", "committed", "J", false)
def tyX3 : Nat → FieldType := fun k => match k with
  | 0 => .array .int
  | 1 => .array .long
  | 2 => .int
  | 3 => .int
  | 4 => .long
  | _ => .long
abbrev wsX30 : List Cond := u_ws RX3 TX3 6
theorem nmX3 : ∀ a, a < 6 → ∀ b, b < 6 → a ≠ b → (TX3 a).2.1 ≠ (TX3 b).2.1 := by decide +kernel
theorem tyX3_ok : ∀ k, k < 6 → parseFieldDescriptor (TX3 k).2.2.1 = some (tyX3 k) := by decide +kernel
abbrev cX3_init : ByteArray := prog_5_method_1_code
def yX3_init : MethodName := ⟨RX3, "<init>", "()V"⟩
abbrev cX3_has : ByteArray := prog_5_method_2_code
def yX3_has : MethodName := ⟨RX3, "has", "(JI)Z"⟩
abbrev cX3_areAllUsed : ByteArray := prog_5_method_3_code
def yX3_areAllUsed : MethodName := ⟨RX3, "areAllUsed", "()Z"⟩
abbrev cX3_wereBegun : ByteArray := prog_5_method_4_code
def yX3_wereBegun : MethodName := ⟨RX3, "wereBegun", "(I)Z"⟩
abbrev cX3_isActive : ByteArray := prog_5_method_5_code
def yX3_isActive : MethodName := ⟨RX3, "isActive", "(I)Z"⟩
abbrev cX3_isTakenBack : ByteArray := prog_5_method_6_code
def yX3_isTakenBack : MethodName := ⟨RX3, "isTakenBack", "(I)Z"⟩
abbrev cX3_start : ByteArray := prog_5_method_7_code
def yX3_start : MethodName := ⟨RX3, "start", "()I"⟩
abbrev cX3_finish : ByteArray := prog_5_method_8_code
def yX3_finish : MethodName := ⟨RX3, "finish", "(IZ)V"⟩
abbrev cX3_skip : ByteArray := prog_5_method_9_code
def yX3_skip : MethodName := ⟨RX3, "skip", "(I)I"⟩
abbrev cX3_activeCount : ByteArray := prog_5_method_10_code
def yX3_activeCount : MethodName := ⟨RX3, "activeCount", "()I"⟩
abbrev cX3_ageOf : ByteArray := prog_5_method_11_code
def yX3_ageOf : MethodName := ⟨RX3, "ageOf", "(I)I"⟩
abbrev cX3_oldestActiveAge : ByteArray := prog_5_method_12_code
def yX3_oldestActiveAge : MethodName := ⟨RX3, "oldestActiveAge", "()I"⟩
abbrev cX3_knows : ByteArray := prog_5_method_13_code
def yX3_knows : MethodName := ⟨RX3, "knows", "(II)Z"⟩
abbrev cX3_isRival : ByteArray := prog_5_method_14_code
def yX3_isRival : MethodName := ⟨RX3, "isRival", "(II)Z"⟩
abbrev cX3_settled : ByteArray := prog_5_method_15_code
def yX3_settled : MethodName := ⟨RX3, "settled", "()J"⟩
def RX4 : String := "RowPages"
def TX4 : u_T := fun k => match k with
  | 0 => ("RowPages", "transactions", "LRowPages$Transactions;", true)
  | 1 => ("RowPages", "slots", "LRowPages$Slots;", true)
  | 2 => ("RowPages", "index", "LRowPages$Index;", true)
  | 3 => ("RowPages", "table", "LRowPages$Table;", true)
  | 4 => ("RowPages", "mapped", "[Z", true)
  | _ => ("RowPages", "freezingAge", "I", false)
def tyX4 : Nat → FieldType := fun k => match k with
  | 0 => .object "RowPages$Transactions"
  | 1 => .object "RowPages$Slots"
  | 2 => .object "RowPages$Index"
  | 3 => .object "RowPages$Table"
  | 4 => .array .boolean
  | _ => .int
abbrev wsX40 : List Cond := u_ws RX4 TX4 6
theorem nmX4 : ∀ a, a < 6 → ∀ b, b < 6 → a ≠ b → (TX4 a).2.1 ≠ (TX4 b).2.1 := by decide +kernel
theorem tyX4_ok : ∀ k, k < 6 → parseFieldDescriptor (TX4 k).2.2.1 = some (tyX4 k) := by decide +kernel
abbrev cX4_init : ByteArray := prog_1_method_1_code
def yX4_init : MethodName := ⟨RX4, "<init>", "()V"⟩
abbrev cX4_begin : ByteArray := prog_1_method_2_code
def yX4_begin : MethodName := ⟨RX4, "begin", "()I"⟩
abbrev cX4_end : ByteArray := prog_1_method_3_code
def yX4_end : MethodName := ⟨RX4, "end", "(IZ)I"⟩
abbrev cX4_jump : ByteArray := prog_1_method_4_code
def yX4_jump : MethodName := ⟨RX4, "jump", "(I)I"⟩
abbrev cX4_stamp : ByteArray := prog_1_method_5_code
def yX4_stamp : MethodName := ⟨RX4, "stamp", "(I)I"⟩
abbrev cX4_isBefore : ByteArray := prog_1_method_6_code
def yX4_isBefore : MethodName := ⟨RX4, "isBefore", "(II)Z"⟩
abbrev cX4_read : ByteArray := prog_1_method_7_code
def yX4_read : MethodName := ⟨RX4, "read", "(II)I"⟩
abbrev cX4_readPlain : ByteArray := prog_1_method_8_code
def yX4_readPlain : MethodName := ⟨RX4, "readPlain", "(II)I"⟩
abbrev cX4_write : ByteArray := prog_1_method_9_code
def yX4_write : MethodName := ⟨RX4, "write", "(III)I"⟩
abbrev cX4_delete : ByteArray := prog_1_method_10_code
def yX4_delete : MethodName := ⟨RX4, "delete", "(II)Z"⟩
abbrev cX4_clean : ByteArray := prog_1_method_11_code
def yX4_clean : MethodName := ⟨RX4, "clean", "(I)I"⟩
abbrev cX4_setFreezing : ByteArray := prog_1_method_12_code
def yX4_setFreezing : MethodName := ⟨RX4, "setFreezing", "(I)I"⟩
abbrev cX4_isMapped : ByteArray := prog_1_method_13_code
def yX4_isMapped : MethodName := ⟨RX4, "isMapped", "(I)Z"⟩
abbrev cX4_isWhole : ByteArray := prog_1_method_14_code
def yX4_isWhole : MethodName := ⟨RX4, "isWhole", "(I)Z"⟩
abbrev cX4_slot : ByteArray := prog_1_method_15_code
def yX4_slot : MethodName := ⟨RX4, "slot", "(II)I"⟩
abbrev cX4_entries : ByteArray := prog_1_method_16_code
def yX4_entries : MethodName := ⟨RX4, "entries", "(I)I"⟩
abbrev cX4_fullness : ByteArray := prog_1_method_17_code
def yX4_fullness : MethodName := ⟨RX4, "fullness", "(I)F"⟩
abbrev cX4_oldest : ByteArray := prog_1_method_18_code
def yX4_oldest : MethodName := ⟨RX4, "oldest", "()I"⟩
abbrev cX4_checkTransaction : ByteArray := prog_1_method_19_code
def yX4_checkTransaction : MethodName := ⟨RX4, "checkTransaction", "(I)V"⟩
abbrev cX4_checkActive : ByteArray := prog_1_method_20_code
def yX4_checkActive : MethodName := ⟨RX4, "checkActive", "(I)V"⟩
abbrev cX4_checkNotRefused : ByteArray := prog_1_method_21_code
def yX4_checkNotRefused : MethodName := ⟨RX4, "checkNotRefused", "(II)V"⟩
abbrev cX4_checkStamp : ByteArray := prog_1_method_22_code
def yX4_checkStamp : MethodName := ⟨RX4, "checkStamp", "(I)V"⟩
abbrev cX4_checkKey : ByteArray := prog_1_method_23_code
def yX4_checkKey : MethodName := ⟨RX4, "checkKey", "(I)V"⟩
abbrev cX4_checkValue : ByteArray := prog_1_method_24_code
def yX4_checkValue : MethodName := ⟨RX4, "checkValue", "(I)V"⟩
abbrev cX4_checkPage : ByteArray := prog_1_method_25_code
def yX4_checkPage : MethodName := ⟨RX4, "checkPage", "(I)V"⟩
abbrev cX4_checkSlot : ByteArray := prog_1_method_26_code
def yX4_checkSlot : MethodName := ⟨RX4, "checkSlot", "(I)V"⟩
abbrev cX4_isPlace : ByteArray := prog_1_method_27_code
def yX4_isPlace : MethodName := ⟨RX4, "isPlace", "(I)Z"⟩
abbrev cX4_firstOf : ByteArray := prog_1_method_28_code
def yX4_firstOf : MethodName := ⟨RX4, "firstOf", "(I)I"⟩
abbrev cX4_pageOf : ByteArray := prog_1_method_29_code
def yX4_pageOf : MethodName := ⟨RX4, "pageOf", "(I)I"⟩
abbrev cX4_slotOf : ByteArray := prog_1_method_30_code
def yX4_slotOf : MethodName := ⟨RX4, "slotOf", "(I)I"⟩
abbrev cX4_distance : ByteArray := prog_1_method_31_code
def yX4_distance : MethodName := ⟨RX4, "distance", "(II)I"⟩
abbrev cX4_seenPlace : ByteArray := prog_1_method_32_code
def yX4_seenPlace : MethodName := ⟨RX4, "seenPlace", "(II)I"⟩
abbrev cX4_seenInChain : ByteArray := prog_1_method_33_code
def yX4_seenInChain : MethodName := ⟨RX4, "seenInChain", "(II)I"⟩
abbrev cX4_sees : ByteArray := prog_1_method_34_code
def yX4_sees : MethodName := ⟨RX4, "sees", "(II)Z"⟩
abbrev cX4_placeForNew : ByteArray := prog_1_method_35_code
def yX4_placeForNew : MethodName := ⟨RX4, "placeForNew", "(I)I"⟩
abbrev cX4_putDeath : ByteArray := prog_1_method_36_code
def yX4_putDeath : MethodName := ⟨RX4, "putDeath", "(II)V"⟩
abbrev cX4_putVersion : ByteArray := prog_1_method_37_code
def yX4_putVersion : MethodName := ⟨RX4, "putVersion", "(IIII)V"⟩
abbrev cX4_canGo : ByteArray := prog_1_method_38_code
def yX4_canGo : MethodName := ⟨RX4, "canGo", "(IJ)Z"⟩
abbrev cX4_isSeenByAll : ByteArray := prog_1_method_39_code
def yX4_isSeenByAll : MethodName := ⟨RX4, "isSeenByAll", "(IJ)Z"⟩
abbrev cX4_takeOut : ByteArray := prog_1_method_40_code
def yX4_takeOut : MethodName := ⟨RX4, "takeOut", "(I)V"⟩
abbrev cX4_freezeOldOnes : ByteArray := prog_1_method_41_code
def yX4_freezeOldOnes : MethodName := ⟨RX4, "freezeOldOnes", "(IJ)V"⟩
def RX5 : String := "RowPagesModel"
def TX5 : u_T := fun k => match k with
  | 0 => ("RowPagesModel", "thrown", "I", false)
  | 1 => ("RowPagesModel", "nextStamp", "I", false)
  | 2 => ("RowPagesModel", "freezing", "I", false)
  | 3 => ("RowPagesModel", "stamp", "[I", true)
  | 4 => ("RowPagesModel", "state", "[I", true)
  | 5 => ("RowPagesModel", "snapshot", "[J", true)
  | 6 => ("RowPagesModel", "transactions", "I", false)
  | 7 => ("RowPagesModel", "isUsed", "[Z", true)
  | 8 => ("RowPagesModel", "key", "[I", true)
  | 9 => ("RowPagesModel", "value", "[I", true)
  | 10 => ("RowPagesModel", "birth", "[I", true)
  | 11 => ("RowPagesModel", "isFrozen", "[Z", true)
  | 12 => ("RowPagesModel", "death", "[I", true)
  | 13 => ("RowPagesModel", "next", "[I", true)
  | 14 => ("RowPagesModel", "isMapped", "[Z", true)
  | 15 => ("RowPagesModel", "entry", "[I", true)
  | _ => ("RowPagesModel", "entries", "[I", true)
def tyX5 : Nat → FieldType := fun k => match k with
  | 0 => .int
  | 1 => .int
  | 2 => .int
  | 3 => .array .int
  | 4 => .array .int
  | 5 => .array .long
  | 6 => .int
  | 7 => .array .boolean
  | 8 => .array .int
  | 9 => .array .int
  | 10 => .array .int
  | 11 => .array .boolean
  | 12 => .array .int
  | 13 => .array .int
  | 14 => .array .boolean
  | 15 => .array .int
  | _ => .array .int
abbrev wsX50 : List Cond := u_ws RX5 TX5 17
theorem nmX5 : ∀ a, a < 17 → ∀ b, b < 17 → a ≠ b → (TX5 a).2.1 ≠ (TX5 b).2.1 := by decide +kernel
theorem tyX5_ok : ∀ k, k < 17 → parseFieldDescriptor (TX5 k).2.2.1 = some (tyX5 k) := by decide +kernel
abbrev cX5_init : ByteArray := prog_7_method_1_code
def yX5_init : MethodName := ⟨RX5, "<init>", "()V"⟩
abbrev cX5_thrown : ByteArray := prog_7_method_2_code
def yX5_thrown : MethodName := ⟨RX5, "thrown", "()I"⟩
abbrev cX5_isFine : ByteArray := prog_7_method_3_code
def yX5_isFine : MethodName := ⟨RX5, "isFine", "(I)Z"⟩
abbrev cX5_isIn : ByteArray := prog_7_method_4_code
def yX5_isIn : MethodName := ⟨RX5, "isIn", "(III)Z"⟩
abbrev cX5_isTransaction : ByteArray := prog_7_method_5_code
def yX5_isTransaction : MethodName := ⟨RX5, "isTransaction", "(I)Z"⟩
abbrev cX5_isActive : ByteArray := prog_7_method_6_code
def yX5_isActive : MethodName := ⟨RX5, "isActive", "(I)Z"⟩
abbrev cX5_isKey : ByteArray := prog_7_method_7_code
def yX5_isKey : MethodName := ⟨RX5, "isKey", "(I)Z"⟩
abbrev cX5_isPage : ByteArray := prog_7_method_8_code
def yX5_isPage : MethodName := ⟨RX5, "isPage", "(I)Z"⟩
abbrev cX5_isInSnapshot : ByteArray := prog_7_method_9_code
def yX5_isInSnapshot : MethodName := ⟨RX5, "isInSnapshot", "(II)Z"⟩
abbrev cX5_ageOf : ByteArray := prog_7_method_10_code
def yX5_ageOf : MethodName := ⟨RX5, "ageOf", "(I)I"⟩
abbrev cX5_isPast : ByteArray := prog_7_method_11_code
def yX5_isPast : MethodName := ⟨RX5, "isPast", "(I)Z"⟩
abbrev cX5_oldestNow : ByteArray := prog_7_method_12_code
def yX5_oldestNow : MethodName := ⟨RX5, "oldestNow", "()I"⟩
abbrev cX5_begin : ByteArray := prog_7_method_13_code
def yX5_begin : MethodName := ⟨RX5, "begin", "()I"⟩
abbrev cX5_end : ByteArray := prog_7_method_14_code
def yX5_end : MethodName := ⟨RX5, "end", "(IZ)I"⟩
abbrev cX5_jump : ByteArray := prog_7_method_15_code
def yX5_jump : MethodName := ⟨RX5, "jump", "(I)I"⟩
abbrev cX5_stamp : ByteArray := prog_7_method_16_code
def yX5_stamp : MethodName := ⟨RX5, "stamp", "(I)I"⟩
abbrev cX5_isBefore : ByteArray := prog_7_method_17_code
def yX5_isBefore : MethodName := ⟨RX5, "isBefore", "(II)Z"⟩
abbrev cX5_knows : ByteArray := prog_7_method_18_code
def yX5_knows : MethodName := ⟨RX5, "knows", "(II)Z"⟩
abbrev cX5_sees : ByteArray := prog_7_method_19_code
def yX5_sees : MethodName := ⟨RX5, "sees", "(II)Z"⟩
abbrev cX5_seen : ByteArray := prog_7_method_20_code
def yX5_seen : MethodName := ⟨RX5, "seen", "(II)I"⟩
abbrev cX5_readNow : ByteArray := prog_7_method_21_code
def yX5_readNow : MethodName := ⟨RX5, "readNow", "(II)I"⟩
abbrev cX5_read : ByteArray := prog_7_method_22_code
def yX5_read : MethodName := ⟨RX5, "read", "(II)I"⟩
abbrev cX5_readPlain : ByteArray := prog_7_method_23_code
def yX5_readPlain : MethodName := ⟨RX5, "readPlain", "(II)I"⟩
abbrev cX5_bars : ByteArray := prog_7_method_24_code
def yX5_bars : MethodName := ⟨RX5, "bars", "(II)Z"⟩
abbrev cX5_isRefused : ByteArray := prog_7_method_25_code
def yX5_isRefused : MethodName := ⟨RX5, "isRefused", "(II)Z"⟩
abbrev cX5_free : ByteArray := prog_7_method_26_code
def yX5_free : MethodName := ⟨RX5, "free", "(II)I"⟩
abbrev cX5_puts : ByteArray := prog_7_method_27_code
def yX5_puts : MethodName := ⟨RX5, "puts", "(IIII)V"⟩
abbrev cX5_dies : ByteArray := prog_7_method_28_code
def yX5_dies : MethodName := ⟨RX5, "dies", "(II)V"⟩
abbrev cX5_write : ByteArray := prog_7_method_29_code
def yX5_write : MethodName := ⟨RX5, "write", "(III)I"⟩
abbrev cX5_delete : ByteArray := prog_7_method_30_code
def yX5_delete : MethodName := ⟨RX5, "delete", "(II)Z"⟩
abbrev cX5_canGo : ByteArray := prog_7_method_31_code
def yX5_canGo : MethodName := ⟨RX5, "canGo", "(I)Z"⟩
abbrev cX5_leaves : ByteArray := prog_7_method_32_code
def yX5_leaves : MethodName := ⟨RX5, "leaves", "(I)V"⟩
abbrev cX5_isWholeNow : ByteArray := prog_7_method_33_code
def yX5_isWholeNow : MethodName := ⟨RX5, "isWholeNow", "(I)Z"⟩
abbrev cX5_clean : ByteArray := prog_7_method_34_code
def yX5_clean : MethodName := ⟨RX5, "clean", "(I)I"⟩
abbrev cX5_setFreezing : ByteArray := prog_7_method_35_code
def yX5_setFreezing : MethodName := ⟨RX5, "setFreezing", "(I)I"⟩
abbrev cX5_isMapped : ByteArray := prog_7_method_36_code
def yX5_isMapped : MethodName := ⟨RX5, "isMapped", "(I)Z"⟩
abbrev cX5_isWhole : ByteArray := prog_7_method_37_code
def yX5_isWhole : MethodName := ⟨RX5, "isWhole", "(I)Z"⟩
abbrev cX5_slot : ByteArray := prog_7_method_38_code
def yX5_slot : MethodName := ⟨RX5, "slot", "(II)I"⟩
abbrev cX5_entries : ByteArray := prog_7_method_39_code
def yX5_entries : MethodName := ⟨RX5, "entries", "(I)I"⟩
abbrev cX5_fullness : ByteArray := prog_7_method_40_code
def yX5_fullness : MethodName := ⟨RX5, "fullness", "(I)F"⟩
abbrev cX5_oldest : ByteArray := prog_7_method_41_code
def yX5_oldest : MethodName := ⟨RX5, "oldest", "()I"⟩
def RJ13 : String := "java/lang/Long"
def TJ13 : u_T := fun k => match k with
  | _ => ("", "", "", false)
def tyJ13 : Nat → FieldType := fun k => match k with
  | _ => .int
abbrev wsJ130 : List Cond := u_ws RJ13 TJ13 0
theorem nmJ13 : ∀ a, a < 0 → ∀ b, b < 0 → a ≠ b → (TJ13 a).2.1 ≠ (TJ13 b).2.1 := by decide +kernel
theorem tyJ13_ok : ∀ k, k < 0 → parseFieldDescriptor (TJ13 k).2.2.1 = some (tyJ13 k) := by decide +kernel
abbrev cJ13_bitCount_95d88 : ByteArray := prog_12_method_50_code
def yJ13_bitCount_95d88 : MethodName := ⟨RJ13, "bitCount", "(J)I"⟩
def RJ9 : String := "java/lang/Math"
def TJ9 : u_T := fun k => match k with
  | _ => ("", "", "", false)
def tyJ9 : Nat → FieldType := fun k => match k with
  | _ => .int
abbrev wsJ90 : List Cond := u_ws RJ9 TJ9 0
theorem nmJ9 : ∀ a, a < 0 → ∀ b, b < 0 → a ≠ b → (TJ9 a).2.1 ≠ (TJ9 b).2.1 := by decide +kernel
theorem tyJ9_ok : ∀ k, k < 0 → parseFieldDescriptor (TJ9 k).2.2.1 = some (tyJ9 k) := by decide +kernel
abbrev cJ9_floorMod_7cf53 : ByteArray := prog_13_method_50_code
def yJ9_floorMod_7cf53 : MethodName := ⟨RJ9, "floorMod", "(II)I"⟩
abbrev cJ9_max_7cf53 : ByteArray := prog_13_method_65_code
def yJ9_max_7cf53 : MethodName := ⟨RJ9, "max", "(II)I"⟩
def RJ0 : String := "java/lang/String"
def TJ0 : u_T := fun k => match k with
  | _ => ("", "", "", false)
def tyJ0 : Nat → FieldType := fun k => match k with
  | _ => .int
abbrev wsJ00 : List Cond := u_ws RJ0 TJ0 0
theorem nmJ0 : ∀ a, a < 0 → ∀ b, b < 0 → a ≠ b → (TJ0 a).2.1 ≠ (TJ0 b).2.1 := by decide +kernel
theorem tyJ0_ok : ∀ k, k < 0 → parseFieldDescriptor (TJ0 k).2.2.1 = some (tyJ0 k) := by decide +kernel
def RL : String := "RowPagesLaw"
abbrev cL_begin : ByteArray := method_3_code
def yL_begin : MethodName := ⟨RL, "begin", "(LRowPages;[J)I"⟩
abbrev cL_end : ByteArray := method_4_code
def yL_end : MethodName := ⟨RL, "end", "(LRowPages;IZ[J)I"⟩
abbrev cL_jump : ByteArray := method_5_code
def yL_jump : MethodName := ⟨RL, "jump", "(LRowPages;I[J)I"⟩
abbrev cL_stamp : ByteArray := method_6_code
def yL_stamp : MethodName := ⟨RL, "stamp", "(LRowPages;I[J)I"⟩
abbrev cL_isBefore : ByteArray := method_7_code
def yL_isBefore : MethodName := ⟨RL, "isBefore", "(LRowPages;II[J)I"⟩
abbrev cL_read : ByteArray := method_8_code
def yL_read : MethodName := ⟨RL, "read", "(LRowPages;II[J)I"⟩
abbrev cL_readPlain : ByteArray := method_9_code
def yL_readPlain : MethodName := ⟨RL, "readPlain", "(LRowPages;II[J)I"⟩
abbrev cL_write : ByteArray := method_10_code
def yL_write : MethodName := ⟨RL, "write", "(LRowPages;III[J)I"⟩
abbrev cL_delete : ByteArray := method_11_code
def yL_delete : MethodName := ⟨RL, "delete", "(LRowPages;II[J)I"⟩
abbrev cL_clean : ByteArray := method_12_code
def yL_clean : MethodName := ⟨RL, "clean", "(LRowPages;I[J)I"⟩
abbrev cL_setFreezing : ByteArray := method_13_code
def yL_setFreezing : MethodName := ⟨RL, "setFreezing", "(LRowPages;I[J)I"⟩
abbrev cL_isMapped : ByteArray := method_14_code
def yL_isMapped : MethodName := ⟨RL, "isMapped", "(LRowPages;I[J)I"⟩
abbrev cL_isWhole : ByteArray := method_15_code
def yL_isWhole : MethodName := ⟨RL, "isWhole", "(LRowPages;I[J)I"⟩
abbrev cL_slot : ByteArray := method_16_code
def yL_slot : MethodName := ⟨RL, "slot", "(LRowPages;II[J)I"⟩
abbrev cL_entries : ByteArray := method_17_code
def yL_entries : MethodName := ⟨RL, "entries", "(LRowPages;I[J)I"⟩
abbrev cL_fullness : ByteArray := method_18_code
def yL_fullness : MethodName := ⟨RL, "fullness", "(LRowPages;I[D)I"⟩
abbrev cL_law : ByteArray := code
def yL_law : MethodName := ⟨RL, "law", "([I)Z"⟩
def wsX0_init : List Cond := .code yX0_init cX0_init 1 none :: ([.methodLink RX0 3 objectInit, .instanceMethod objectInit, .code objectInit ⟨#[0xb1]⟩ 1 none, .classLink RX0 9 "[[I", .arrayClass .int, .fieldLink RX0 11 "RowPages$Index" "places" "[[I", .fieldLink RX0 16 "RowPages$Index" "counts" "[I"] ++ wsX00)
def wsX0_add : List Cond := .code yX0_add cX0_add 3 none :: ([.fieldLink RX0 16 "RowPages$Index" "counts" "[I", .fieldLink RX0 11 "RowPages$Index" "places" "[[I"] ++ wsX00)
def wsX0_move : List Cond := .code yX0_move cX0_move 7 none :: ([.fieldLink RX0 16 "RowPages$Index" "counts" "[I", .fieldLink RX0 11 "RowPages$Index" "places" "[[I"] ++ wsX00)
def wsX1_empty : List Cond := .code yX1_empty cX1_empty 2 none :: ([.fieldLink RX1 9 "RowPages$Slots" "keys" "[I", .fieldLink RX1 18 "RowPages$Slots" "births" "[I", .fieldLink RX1 24 "RowPages$Slots" "frozen" "[Z", .fieldLink RX1 28 "RowPages$Slots" "deaths" "[I", .fieldLink RX1 34 "RowPages$Slots" "nexts" "[I", .fieldLink RX1 37 "RowPages$Slots" "rows" "[I"] ++ wsX10)
def wsX1_init : List Cond := .code yX1_init cX1_init 2 none :: ([.methodLink RX1 3 objectInit, .instanceMethod objectInit, .code objectInit ⟨#[0xb1]⟩ 1 none, .arrayClass .int, .fieldLink RX1 9 "RowPages$Slots" "keys" "[I", .fieldLink RX1 15 "RowPages$Slots" "values" "[I", .fieldLink RX1 18 "RowPages$Slots" "births" "[I", .fieldLink RX1 21 "RowPages$Slots" "birthStamps" "[I", .arrayClass .boolean, .fieldLink RX1 24 "RowPages$Slots" "frozen" "[Z", .fieldLink RX1 28 "RowPages$Slots" "deaths" "[I", .fieldLink RX1 31 "RowPages$Slots" "deathStamps" "[I", .fieldLink RX1 34 "RowPages$Slots" "nexts" "[I", .fieldLink RX1 37 "RowPages$Slots" "rows" "[I", .methodLink RX1 40 yX1_empty, .instanceMethod yX1_empty, .selects RX1 yX1_empty yX1_empty, .initialized RX1, .code yX1_empty cX1_empty 2 none] ++ wsX10)
def wsX1_isUsed : List Cond := .code yX1_isUsed cX1_isUsed 2 (some .boolean) :: ([.fieldLink RX1 9 "RowPages$Slots" "keys" "[I"] ++ wsX10)
def wsX1_hasDeath : List Cond := .code yX1_hasDeath cX1_hasDeath 2 (some .boolean) :: ([.fieldLink RX1 28 "RowPages$Slots" "deaths" "[I"] ++ wsX10)
def wsX1_lowestFree : List Cond := .code yX1_lowestFree cX1_lowestFree 4 (some .int) :: ([.methodLink RX1 44 yX1_isUsed, .instanceMethod yX1_isUsed, .selects RX1 yX1_isUsed yX1_isUsed, .initialized RX1, .code yX1_isUsed cX1_isUsed 2 (some .boolean), .fieldLink RX1 9 "RowPages$Slots" "keys" "[I"] ++ wsX10)
def wsX1_takeOffDeaths : List Cond := .code yX1_takeOffDeaths cX1_takeOffDeaths 3 none :: ([.fieldLink RX1 28 "RowPages$Slots" "deaths" "[I"] ++ wsX10)
def wsX1_bypass : List Cond := .code yX1_bypass cX1_bypass 4 none :: ([.fieldLink RX1 34 "RowPages$Slots" "nexts" "[I"] ++ wsX10)
def wsX2_init : List Cond := .code yX2_init cX2_init 1 none :: ([.methodLink RX2 3 objectInit, .instanceMethod objectInit, .code objectInit ⟨#[0xb1]⟩ 1 none, .arrayClass .int, .fieldLink RX2 9 "RowPages$Table" "keys" "[I", .fieldLink RX2 15 "RowPages$Table" "values" "[I", .fieldLink RX2 18 "RowPages$Table" "births" "[I", .fieldLink RX2 21 "RowPages$Table" "deaths" "[I"] ++ wsX20)
def wsX2_add : List Cond := .code yX2_add cX2_add 5 (some .int) :: ([.fieldLink RX2 24 "RowPages$Table" "count" "I", .fieldLink RX2 9 "RowPages$Table" "keys" "[I", .fieldLink RX2 15 "RowPages$Table" "values" "[I", .fieldLink RX2 18 "RowPages$Table" "births" "[I", .fieldLink RX2 21 "RowPages$Table" "deaths" "[I"] ++ wsX20)
def wsX2_putDeath : List Cond := .code yX2_putDeath cX2_putDeath 3 none :: ([.fieldLink RX2 24 "RowPages$Table" "count" "I", .fieldLink RX2 21 "RowPages$Table" "deaths" "[I"] ++ wsX20)
def wsX2_takeOffDeaths : List Cond := .code yX2_takeOffDeaths cX2_takeOffDeaths 3 none :: ([.fieldLink RX2 24 "RowPages$Table" "count" "I", .fieldLink RX2 21 "RowPages$Table" "deaths" "[I"] ++ wsX20)
def wsX3_init : List Cond := .code yX3_init cX3_init 1 none :: ([.methodLink RX3 3 objectInit, .instanceMethod objectInit, .code objectInit ⟨#[0xb1]⟩ 1 none, .arrayClass .int, .fieldLink RX3 9 "RowPages$Transactions" "stamps" "[I", .arrayClass .long, .fieldLink RX3 15 "RowPages$Transactions" "snapshots" "[J"] ++ wsX30)
def wsX3_has : List Cond := .code yX3_has cX3_has 3 (some .boolean) :: ([])
def wsX3_areAllUsed : List Cond := .code yX3_areAllUsed cX3_areAllUsed 1 (some .boolean) :: ([.fieldLink RX3 19 "RowPages$Transactions" "count" "I"] ++ wsX30)
def wsX3_wereBegun : List Cond := .code yX3_wereBegun cX3_wereBegun 2 (some .boolean) :: ([.fieldLink RX3 19 "RowPages$Transactions" "count" "I"] ++ wsX30)
def wsX3_isActive : List Cond := .code yX3_isActive cX3_isActive 2 (some .boolean) :: ([.fieldLink RX3 23 "RowPages$Transactions" "active" "J", .methodLink RX3 27 yX3_has, .static yX3_has, .initialized RX3, .code yX3_has cX3_has 3 (some .boolean)] ++ wsX30)
def wsX3_isTakenBack : List Cond := .code yX3_isTakenBack cX3_isTakenBack 2 (some .boolean) :: ([.fieldLink RX3 23 "RowPages$Transactions" "active" "J", .fieldLink RX3 35 "RowPages$Transactions" "committed" "J", .methodLink RX3 31 yX3_wereBegun, .instanceMethod yX3_wereBegun, .selects RX3 yX3_wereBegun yX3_wereBegun, .initialized RX3, .code yX3_wereBegun cX3_wereBegun 2 (some .boolean), .fieldLink RX3 19 "RowPages$Transactions" "count" "I", .methodLink RX3 27 yX3_has, .static yX3_has, .code yX3_has cX3_has 3 (some .boolean)] ++ wsX30)
def wsX3_skip : List Cond := .code yX3_skip cX3_skip 2 (some .int) :: ([.fieldLink RX3 38 "RowPages$Transactions" "nextStamp" "I"] ++ wsX30)
def wsX3_start : List Cond := .code yX3_start cX3_start 2 (some .int) :: ([.fieldLink RX3 19 "RowPages$Transactions" "count" "I", .fieldLink RX3 9 "RowPages$Transactions" "stamps" "[I", .fieldLink RX3 38 "RowPages$Transactions" "nextStamp" "I", .fieldLink RX3 15 "RowPages$Transactions" "snapshots" "[J", .fieldLink RX3 35 "RowPages$Transactions" "committed" "J", .fieldLink RX3 23 "RowPages$Transactions" "active" "J", .methodLink RX3 41 yX3_skip, .instanceMethod yX3_skip, .selects RX3 yX3_skip yX3_skip, .initialized RX3, .code yX3_skip cX3_skip 2 (some .int)] ++ wsX30)
def wsX3_finish : List Cond := .code yX3_finish cX3_finish 3 none :: ([.fieldLink RX3 23 "RowPages$Transactions" "active" "J", .constantLong RX3 45 (-1), .fieldLink RX3 35 "RowPages$Transactions" "committed" "J"] ++ wsX30)
def wsJ13_bitCount_95d88 : List Cond := .code yJ13_bitCount_95d88 cJ13_bitCount_95d88 2 (some .int) :: ([.constantLong RJ13 314 (6148914691236517205), .constantLong RJ13 316 (3689348814741910323), .constantLong RJ13 318 (1085102592571150095)])
def wsX3_activeCount : List Cond := .code yX3_activeCount cX3_activeCount 1 (some .int) :: ([.fieldLink RX3 23 "RowPages$Transactions" "active" "J", .methodLink RX3 47 yJ13_bitCount_95d88, .static yJ13_bitCount_95d88, .initialized RJ13, .code yJ13_bitCount_95d88 cJ13_bitCount_95d88 2 (some .int), .constantLong RJ13 314 (6148914691236517205), .constantLong RJ13 316 (3689348814741910323), .constantLong RJ13 318 (1085102592571150095)] ++ wsX30)
def wsJ9_floorMod_7cf53 : List Cond := .code yJ9_floorMod_7cf53 cJ9_floorMod_7cf53 3 (some .int) :: ([])
def wsX4_distance : List Cond := .code yX4_distance cX4_distance 2 (some .int) :: ([.methodLink RX4 260 yJ9_floorMod_7cf53, .static yJ9_floorMod_7cf53, .initialized RJ9, .code yJ9_floorMod_7cf53 cJ9_floorMod_7cf53 3 (some .int)])
def wsX3_ageOf : List Cond := .code yX3_ageOf cX3_ageOf 2 (some .int) :: ([.fieldLink RX3 38 "RowPages$Transactions" "nextStamp" "I", .static yX4_distance, .initialized RX4, .code yX4_distance cX4_distance 2 (some .int), .methodLink RX4 260 yJ9_floorMod_7cf53, .static yJ9_floorMod_7cf53, .initialized RJ9, .code yJ9_floorMod_7cf53 cJ9_floorMod_7cf53 3 (some .int)] ++ wsX30)
def wsX3_oldestActiveAge_r1 : List Cond := [Cond.fieldLink RX3 19 "RowPages$Transactions" "count" "I", Cond.fieldLink RX3 9 "RowPages$Transactions" "stamps" "[I", Cond.methodLink RX3 63 Lib.Math.max.name, Cond.static Lib.Math.max.name, Cond.initialized "java/lang/Math", Cond.code Lib.Math.max.name Lib.Math.max.code 2 (some .int), Cond.methodLink RX3 57 yX3_isActive, Cond.instanceMethod yX3_isActive, Cond.selects RX3 yX3_isActive yX3_isActive, Cond.initialized RX3, Cond.code yX3_isActive cX3_isActive 2 (some .boolean), Cond.fieldLink RX3 23 "RowPages$Transactions" "active" "J", Cond.methodLink RX3 27 yX3_has, Cond.static yX3_has, Cond.code yX3_has cX3_has 3 (some .boolean), Cond.methodLink RX3 60 yX3_ageOf, Cond.instanceMethod yX3_ageOf, Cond.selects RX3 yX3_ageOf yX3_ageOf, Cond.code yX3_ageOf cX3_ageOf 2 (some .int), Cond.fieldLink RX3 38 "RowPages$Transactions" "nextStamp" "I", Cond.static yX4_distance, Cond.initialized RX4, Cond.code yX4_distance cX4_distance 2 (some .int), Cond.methodLink RX4 260 yJ9_floorMod_7cf53]
def wsX3_oldestActiveAge_r2 : List Cond := [Cond.static yJ9_floorMod_7cf53, Cond.initialized RJ9, Cond.code yJ9_floorMod_7cf53 cJ9_floorMod_7cf53 3 (some .int)]
def wsX3_oldestActiveAge : List Cond := .code yX3_oldestActiveAge cX3_oldestActiveAge 3 (some .int) :: ((wsX3_oldestActiveAge_r1 ++ wsX3_oldestActiveAge_r2) ++ wsX30)
def wsX3_knows : List Cond := .code yX3_knows cX3_knows 3 (some .boolean) :: ([.fieldLink RX3 15 "RowPages$Transactions" "snapshots" "[J", .methodLink RX3 27 yX3_has, .static yX3_has, .initialized RX3, .code yX3_has cX3_has 3 (some .boolean)] ++ wsX30)
def wsX3_isRival : List Cond := .code yX3_isRival cX3_isRival 3 (some .boolean) :: ([.fieldLink RX3 23 "RowPages$Transactions" "active" "J", .fieldLink RX3 35 "RowPages$Transactions" "committed" "J", .methodLink RX3 27 yX3_has, .static yX3_has, .initialized RX3, .code yX3_has cX3_has 3 (some .boolean), .methodLink RX3 68 yX3_knows, .instanceMethod yX3_knows, .selects RX3 yX3_knows yX3_knows, .code yX3_knows cX3_knows 3 (some .boolean), .fieldLink RX3 15 "RowPages$Transactions" "snapshots" "[J"] ++ wsX30)
def wsX3_settled : List Cond := .code yX3_settled cX3_settled 4 (some .long) :: ([.fieldLink RX3 35 "RowPages$Transactions" "committed" "J", .fieldLink RX3 19 "RowPages$Transactions" "count" "I", .fieldLink RX3 15 "RowPages$Transactions" "snapshots" "[J", .methodLink RX3 57 yX3_isActive, .instanceMethod yX3_isActive, .selects RX3 yX3_isActive yX3_isActive, .initialized RX3, .code yX3_isActive cX3_isActive 2 (some .boolean), .fieldLink RX3 23 "RowPages$Transactions" "active" "J", .methodLink RX3 27 yX3_has, .static yX3_has, .code yX3_has cX3_has 3 (some .boolean)] ++ wsX30)
def wsX4_init_r1 : List Cond := [Cond.methodLink RX4 3 objectInit, Cond.instanceMethod objectInit, Cond.code objectInit ⟨#[0xb1]⟩ 1 none, Cond.classLink RX4 9 RX3, Cond.instantiable RX3 6, Cond.initialized RX3, Cond.fieldLink RX4 12 "RowPages" "transactions" "LRowPages$Transactions;", Cond.classLink RX4 16 RX1, Cond.instantiable RX1 9, Cond.initialized RX1, Cond.fieldLink RX4 19 "RowPages" "slots" "LRowPages$Slots;", Cond.classLink RX4 23 RX0, Cond.instantiable RX0 2, Cond.initialized RX0, Cond.fieldLink RX4 26 "RowPages" "index" "LRowPages$Index;", Cond.classLink RX4 30 RX2, Cond.instantiable RX2 5, Cond.initialized RX2, Cond.fieldLink RX4 33 "RowPages" "table" "LRowPages$Table;", Cond.arrayClass .boolean, Cond.fieldLink RX4 37 "RowPages" "mapped" "[Z", Cond.fieldLink RX4 41 "RowPages" "freezingAge" "I", Cond.instanceMethod yX3_init, Cond.code yX3_init cX3_init 1 none]
def wsX4_init_r2 : List Cond := [Cond.methodLink RX3 3 objectInit, Cond.arrayClass .int, Cond.fieldLink RX3 9 "RowPages$Transactions" "stamps" "[I", Cond.arrayClass .long, Cond.fieldLink RX3 15 "RowPages$Transactions" "snapshots" "[J", Cond.methodLink RX4 18 yX1_init, Cond.instanceMethod yX1_init, Cond.code yX1_init cX1_init 2 none, Cond.methodLink RX1 3 objectInit, Cond.fieldLink RX1 9 "RowPages$Slots" "keys" "[I", Cond.fieldLink RX1 15 "RowPages$Slots" "values" "[I", Cond.fieldLink RX1 18 "RowPages$Slots" "births" "[I", Cond.fieldLink RX1 21 "RowPages$Slots" "birthStamps" "[I", Cond.fieldLink RX1 24 "RowPages$Slots" "frozen" "[Z", Cond.fieldLink RX1 28 "RowPages$Slots" "deaths" "[I", Cond.fieldLink RX1 31 "RowPages$Slots" "deathStamps" "[I", Cond.fieldLink RX1 34 "RowPages$Slots" "nexts" "[I", Cond.fieldLink RX1 37 "RowPages$Slots" "rows" "[I", Cond.methodLink RX1 40 yX1_empty, Cond.instanceMethod yX1_empty, Cond.selects RX1 yX1_empty yX1_empty, Cond.code yX1_empty cX1_empty 2 none, Cond.instanceMethod yX0_init, Cond.code yX0_init cX0_init 1 none]
def wsX4_init_r3 : List Cond := [Cond.methodLink RX0 3 objectInit, Cond.classLink RX0 9 "[[I", Cond.fieldLink RX0 11 "RowPages$Index" "places" "[[I", Cond.fieldLink RX0 16 "RowPages$Index" "counts" "[I", Cond.instanceMethod yX2_init, Cond.code yX2_init cX2_init 1 none, Cond.methodLink RX2 3 objectInit, Cond.fieldLink RX2 9 "RowPages$Table" "keys" "[I", Cond.fieldLink RX2 15 "RowPages$Table" "values" "[I", Cond.fieldLink RX2 18 "RowPages$Table" "births" "[I", Cond.fieldLink RX2 21 "RowPages$Table" "deaths" "[I"]
def wsX4_init : List Cond := .code yX4_init cX4_init 1 none :: ((wsX4_init_r1 ++ (wsX4_init_r2 ++ wsX4_init_r3)) ++ wsX30 ++ wsX40 ++ wsX10 ++ wsX00 ++ wsX20)
def wsX4_oldest_r1 : List Cond := [Cond.fieldLink RX4 12 "RowPages" "transactions" "LRowPages$Transactions;", Cond.fieldLink RX4 19 "RowPages" "slots" "LRowPages$Slots;", Cond.fieldLink RX4 203 "RowPages$Slots" "frozen" "[Z", Cond.fieldLink RX4 216 "RowPages$Slots" "birthStamps" "[I", Cond.methodLink RX4 222 Lib.Math.max.name, Cond.static Lib.Math.max.name, Cond.initialized "java/lang/Math", Cond.code Lib.Math.max.name Lib.Math.max.code 2 (some .int), Cond.fieldLink RX4 227 "RowPages$Slots" "deathStamps" "[I", Cond.methodLink RX4 213 yX3_oldestActiveAge, Cond.instanceMethod yX3_oldestActiveAge, Cond.selects RX3 yX3_oldestActiveAge yX3_oldestActiveAge, Cond.initialized RX3, Cond.code yX3_oldestActiveAge cX3_oldestActiveAge 3 (some .int), Cond.fieldLink RX3 19 "RowPages$Transactions" "count" "I", Cond.fieldLink RX3 9 "RowPages$Transactions" "stamps" "[I", Cond.methodLink RX3 63 Lib.Math.max.name, Cond.methodLink RX3 57 yX3_isActive, Cond.instanceMethod yX3_isActive, Cond.selects RX3 yX3_isActive yX3_isActive, Cond.code yX3_isActive cX3_isActive 2 (some .boolean), Cond.fieldLink RX3 23 "RowPages$Transactions" "active" "J", Cond.methodLink RX3 27 yX3_has, Cond.static yX3_has]
def wsX4_oldest_r2 : List Cond := [Cond.code yX3_has cX3_has 3 (some .boolean), Cond.methodLink RX3 60 yX3_ageOf, Cond.instanceMethod yX3_ageOf, Cond.selects RX3 yX3_ageOf yX3_ageOf, Cond.code yX3_ageOf cX3_ageOf 2 (some .int), Cond.fieldLink RX3 38 "RowPages$Transactions" "nextStamp" "I", Cond.static yX4_distance, Cond.initialized RX4, Cond.code yX4_distance cX4_distance 2 (some .int), Cond.methodLink RX4 260 yJ9_floorMod_7cf53, Cond.static yJ9_floorMod_7cf53, Cond.initialized RJ9, Cond.code yJ9_floorMod_7cf53 cJ9_floorMod_7cf53 3 (some .int), Cond.methodLink RX4 193 yX1_isUsed, Cond.instanceMethod yX1_isUsed, Cond.selects RX1 yX1_isUsed yX1_isUsed, Cond.initialized RX1, Cond.code yX1_isUsed cX1_isUsed 2 (some .boolean), Cond.fieldLink RX1 9 "RowPages$Slots" "keys" "[I", Cond.methodLink RX4 219 yX3_ageOf, Cond.methodLink RX4 206 yX1_hasDeath, Cond.instanceMethod yX1_hasDeath, Cond.selects RX1 yX1_hasDeath yX1_hasDeath, Cond.code yX1_hasDeath cX1_hasDeath 2 (some .boolean)]
def wsX4_oldest_r3 : List Cond := [Cond.fieldLink RX1 28 "RowPages$Slots" "deaths" "[I"]
def wsX4_oldest : List Cond := .code yX4_oldest cX4_oldest 3 (some .int) :: ((wsX4_oldest_r1 ++ (wsX4_oldest_r2 ++ wsX4_oldest_r3)) ++ wsX40 ++ wsX10 ++ wsX30)
def wsX4_begin_r1 : List Cond := [Cond.classLink RX4 49 "java/lang/IllegalStateException", Cond.initialized "java/lang/IllegalStateException", Cond.fieldLink RX4 12 "RowPages" "transactions" "LRowPages$Transactions;", Cond.methodLink RX4 45 yX3_areAllUsed, Cond.instanceMethod yX3_areAllUsed, Cond.selects RX3 yX3_areAllUsed yX3_areAllUsed, Cond.initialized RX3, Cond.code yX3_areAllUsed cX3_areAllUsed 1 (some .boolean), Cond.fieldLink RX3 19 "RowPages$Transactions" "count" "I", Cond.methodLink RX4 56 yX4_oldest, Cond.instanceMethod yX4_oldest, Cond.selects RX4 yX4_oldest yX4_oldest, Cond.initialized RX4, Cond.code yX4_oldest cX4_oldest 3 (some .int), Cond.fieldLink RX4 19 "RowPages" "slots" "LRowPages$Slots;", Cond.fieldLink RX4 203 "RowPages$Slots" "frozen" "[Z", Cond.fieldLink RX4 216 "RowPages$Slots" "birthStamps" "[I", Cond.methodLink RX4 222 Lib.Math.max.name, Cond.static Lib.Math.max.name, Cond.initialized "java/lang/Math", Cond.code Lib.Math.max.name Lib.Math.max.code 2 (some .int), Cond.fieldLink RX4 227 "RowPages$Slots" "deathStamps" "[I", Cond.methodLink RX4 213 yX3_oldestActiveAge, Cond.instanceMethod yX3_oldestActiveAge]
def wsX4_begin_r2 : List Cond := [Cond.selects RX3 yX3_oldestActiveAge yX3_oldestActiveAge, Cond.code yX3_oldestActiveAge cX3_oldestActiveAge 3 (some .int), Cond.fieldLink RX3 9 "RowPages$Transactions" "stamps" "[I", Cond.methodLink RX3 63 Lib.Math.max.name, Cond.methodLink RX3 57 yX3_isActive, Cond.instanceMethod yX3_isActive, Cond.selects RX3 yX3_isActive yX3_isActive, Cond.code yX3_isActive cX3_isActive 2 (some .boolean), Cond.fieldLink RX3 23 "RowPages$Transactions" "active" "J", Cond.methodLink RX3 27 yX3_has, Cond.static yX3_has, Cond.code yX3_has cX3_has 3 (some .boolean), Cond.methodLink RX3 60 yX3_ageOf, Cond.instanceMethod yX3_ageOf, Cond.selects RX3 yX3_ageOf yX3_ageOf, Cond.code yX3_ageOf cX3_ageOf 2 (some .int), Cond.fieldLink RX3 38 "RowPages$Transactions" "nextStamp" "I", Cond.static yX4_distance, Cond.code yX4_distance cX4_distance 2 (some .int), Cond.methodLink RX4 260 yJ9_floorMod_7cf53, Cond.static yJ9_floorMod_7cf53, Cond.initialized RJ9, Cond.code yJ9_floorMod_7cf53 cJ9_floorMod_7cf53 3 (some .int), Cond.methodLink RX4 193 yX1_isUsed]
def wsX4_begin_r3 : List Cond := [Cond.instanceMethod yX1_isUsed, Cond.selects RX1 yX1_isUsed yX1_isUsed, Cond.initialized RX1, Cond.code yX1_isUsed cX1_isUsed 2 (some .boolean), Cond.fieldLink RX1 9 "RowPages$Slots" "keys" "[I", Cond.methodLink RX4 219 yX3_ageOf, Cond.methodLink RX4 206 yX1_hasDeath, Cond.instanceMethod yX1_hasDeath, Cond.selects RX1 yX1_hasDeath yX1_hasDeath, Cond.code yX1_hasDeath cX1_hasDeath 2 (some .boolean), Cond.fieldLink RX1 28 "RowPages$Slots" "deaths" "[I", Cond.methodLink RX4 62 yX3_start, Cond.instanceMethod yX3_start, Cond.selects RX3 yX3_start yX3_start, Cond.code yX3_start cX3_start 2 (some .int), Cond.fieldLink RX3 15 "RowPages$Transactions" "snapshots" "[J", Cond.fieldLink RX3 35 "RowPages$Transactions" "committed" "J", Cond.methodLink RX3 41 yX3_skip, Cond.instanceMethod yX3_skip, Cond.selects RX3 yX3_skip yX3_skip, Cond.code yX3_skip cX3_skip 2 (some .int)]
def wsX4_begin : List Cond := .code yX4_begin cX4_begin 1 (some .int) :: ((wsX4_begin_r1 ++ (wsX4_begin_r2 ++ wsX4_begin_r3)) ++ wsX40 ++ wsX30 ++ wsX10 ++ (vx_atS RX4 53 "java/lang/IllegalStateException" ["java/lang/RuntimeException", "java/lang/Exception"]).filter goodWord)
def wsX4_checkTransaction : List Cond := .code yX4_checkTransaction cX4_checkTransaction 2 none :: ([.classLink RX4 233 "java/lang/IndexOutOfBoundsException", .initialized "java/lang/IndexOutOfBoundsException", .fieldLink RX4 12 "RowPages" "transactions" "LRowPages$Transactions;", .methodLink RX4 230 yX3_wereBegun, .instanceMethod yX3_wereBegun, .selects RX3 yX3_wereBegun yX3_wereBegun, .initialized RX3, .code yX3_wereBegun cX3_wereBegun 2 (some .boolean), .fieldLink RX3 19 "RowPages$Transactions" "count" "I"] ++ wsX40 ++ wsX30 ++ (vx_atS RX4 237 "java/lang/IndexOutOfBoundsException" ["java/lang/RuntimeException", "java/lang/Exception"]).filter goodWord)
def wsX4_checkActive : List Cond := .code yX4_checkActive cX4_checkActive 2 none :: ([.classLink RX4 49 "java/lang/IllegalStateException", .initialized "java/lang/IllegalStateException", .fieldLink RX4 12 "RowPages" "transactions" "LRowPages$Transactions;", .methodLink RX4 238 yX3_isActive, .instanceMethod yX3_isActive, .selects RX3 yX3_isActive yX3_isActive, .initialized RX3, .code yX3_isActive cX3_isActive 2 (some .boolean), .fieldLink RX3 23 "RowPages$Transactions" "active" "J", .methodLink RX3 27 yX3_has, .static yX3_has, .code yX3_has cX3_has 3 (some .boolean)] ++ wsX40 ++ wsX30 ++ (vx_atS RX4 53 "java/lang/IllegalStateException" ["java/lang/RuntimeException", "java/lang/Exception"]).filter goodWord)
def wsX4_end_r1 : List Cond := [Cond.fieldLink RX4 12 "RowPages" "transactions" "LRowPages$Transactions;", Cond.fieldLink RX4 19 "RowPages" "slots" "LRowPages$Slots;", Cond.fieldLink RX4 33 "RowPages" "table" "LRowPages$Table;", Cond.methodLink RX4 65 yX4_checkTransaction, Cond.instanceMethod yX4_checkTransaction, Cond.selects RX4 yX4_checkTransaction yX4_checkTransaction, Cond.initialized RX4, Cond.code yX4_checkTransaction cX4_checkTransaction 2 none, Cond.classLink RX4 233 "java/lang/IndexOutOfBoundsException", Cond.initialized "java/lang/IndexOutOfBoundsException", Cond.methodLink RX4 230 yX3_wereBegun, Cond.instanceMethod yX3_wereBegun, Cond.selects RX3 yX3_wereBegun yX3_wereBegun, Cond.initialized RX3, Cond.code yX3_wereBegun cX3_wereBegun 2 (some .boolean), Cond.fieldLink RX3 19 "RowPages$Transactions" "count" "I", Cond.methodLink RX4 69 yX4_checkActive, Cond.instanceMethod yX4_checkActive, Cond.selects RX4 yX4_checkActive yX4_checkActive, Cond.code yX4_checkActive cX4_checkActive 2 none, Cond.classLink RX4 49 "java/lang/IllegalStateException", Cond.initialized "java/lang/IllegalStateException", Cond.methodLink RX4 238 yX3_isActive, Cond.instanceMethod yX3_isActive]
def wsX4_end_r2 : List Cond := [Cond.selects RX3 yX3_isActive yX3_isActive, Cond.code yX3_isActive cX3_isActive 2 (some .boolean), Cond.fieldLink RX3 23 "RowPages$Transactions" "active" "J", Cond.methodLink RX3 27 yX3_has, Cond.static yX3_has, Cond.code yX3_has cX3_has 3 (some .boolean), Cond.methodLink RX4 72 yX3_finish, Cond.instanceMethod yX3_finish, Cond.selects RX3 yX3_finish yX3_finish, Cond.code yX3_finish cX3_finish 3 none, Cond.constantLong RX3 45 (-1), Cond.fieldLink RX3 35 "RowPages$Transactions" "committed" "J", Cond.methodLink RX4 76 yX1_takeOffDeaths, Cond.instanceMethod yX1_takeOffDeaths, Cond.selects RX1 yX1_takeOffDeaths yX1_takeOffDeaths, Cond.initialized RX1, Cond.code yX1_takeOffDeaths cX1_takeOffDeaths 3 none, Cond.fieldLink RX1 28 "RowPages$Slots" "deaths" "[I", Cond.methodLink RX4 79 yX2_takeOffDeaths, Cond.instanceMethod yX2_takeOffDeaths, Cond.selects RX2 yX2_takeOffDeaths yX2_takeOffDeaths, Cond.initialized RX2, Cond.code yX2_takeOffDeaths cX2_takeOffDeaths 3 none, Cond.fieldLink RX2 24 "RowPages$Table" "count" "I"]
def wsX4_end_r3 : List Cond := [Cond.fieldLink RX2 21 "RowPages$Table" "deaths" "[I", Cond.methodLink RX4 80 yX3_activeCount, Cond.instanceMethod yX3_activeCount, Cond.selects RX3 yX3_activeCount yX3_activeCount, Cond.code yX3_activeCount cX3_activeCount 1 (some .int), Cond.methodLink RX3 47 yJ13_bitCount_95d88, Cond.static yJ13_bitCount_95d88, Cond.initialized RJ13, Cond.code yJ13_bitCount_95d88 cJ13_bitCount_95d88 2 (some .int), Cond.constantLong RJ13 314 (6148914691236517205), Cond.constantLong RJ13 316 (3689348814741910323), Cond.constantLong RJ13 318 (1085102592571150095)]
def wsX4_end : List Cond := .code yX4_end cX4_end 3 (some .int) :: ((wsX4_end_r1 ++ (wsX4_end_r2 ++ wsX4_end_r3)) ++ wsX40 ++ wsX30 ++ wsX10 ++ wsX20 ++ (vx_atS RX4 237 "java/lang/IndexOutOfBoundsException" ["java/lang/RuntimeException", "java/lang/Exception"]).filter goodWord ++ (vx_atS RX4 53 "java/lang/IllegalStateException" ["java/lang/RuntimeException", "java/lang/Exception"]).filter goodWord)
def wsX4_jump_r1 : List Cond := [Cond.classLink RX4 83 "java/lang/IllegalArgumentException", Cond.initialized "java/lang/IllegalArgumentException", Cond.classLink RX4 49 "java/lang/IllegalStateException", Cond.initialized "java/lang/IllegalStateException", Cond.fieldLink RX4 12 "RowPages" "transactions" "LRowPages$Transactions;", Cond.methodLink RX4 56 yX4_oldest, Cond.instanceMethod yX4_oldest, Cond.selects RX4 yX4_oldest yX4_oldest, Cond.initialized RX4, Cond.code yX4_oldest cX4_oldest 3 (some .int), Cond.fieldLink RX4 19 "RowPages" "slots" "LRowPages$Slots;", Cond.fieldLink RX4 203 "RowPages$Slots" "frozen" "[Z", Cond.fieldLink RX4 216 "RowPages$Slots" "birthStamps" "[I", Cond.methodLink RX4 222 Lib.Math.max.name, Cond.static Lib.Math.max.name, Cond.initialized "java/lang/Math", Cond.code Lib.Math.max.name Lib.Math.max.code 2 (some .int), Cond.fieldLink RX4 227 "RowPages$Slots" "deathStamps" "[I", Cond.methodLink RX4 213 yX3_oldestActiveAge, Cond.instanceMethod yX3_oldestActiveAge, Cond.selects RX3 yX3_oldestActiveAge yX3_oldestActiveAge, Cond.initialized RX3, Cond.code yX3_oldestActiveAge cX3_oldestActiveAge 3 (some .int), Cond.fieldLink RX3 19 "RowPages$Transactions" "count" "I"]
def wsX4_jump_r2 : List Cond := [Cond.fieldLink RX3 9 "RowPages$Transactions" "stamps" "[I", Cond.methodLink RX3 63 Lib.Math.max.name, Cond.methodLink RX3 57 yX3_isActive, Cond.instanceMethod yX3_isActive, Cond.selects RX3 yX3_isActive yX3_isActive, Cond.code yX3_isActive cX3_isActive 2 (some .boolean), Cond.fieldLink RX3 23 "RowPages$Transactions" "active" "J", Cond.methodLink RX3 27 yX3_has, Cond.static yX3_has, Cond.code yX3_has cX3_has 3 (some .boolean), Cond.methodLink RX3 60 yX3_ageOf, Cond.instanceMethod yX3_ageOf, Cond.selects RX3 yX3_ageOf yX3_ageOf, Cond.code yX3_ageOf cX3_ageOf 2 (some .int), Cond.fieldLink RX3 38 "RowPages$Transactions" "nextStamp" "I", Cond.static yX4_distance, Cond.code yX4_distance cX4_distance 2 (some .int), Cond.methodLink RX4 260 yJ9_floorMod_7cf53, Cond.static yJ9_floorMod_7cf53, Cond.initialized RJ9, Cond.code yJ9_floorMod_7cf53 cJ9_floorMod_7cf53 3 (some .int), Cond.methodLink RX4 193 yX1_isUsed, Cond.instanceMethod yX1_isUsed, Cond.selects RX1 yX1_isUsed yX1_isUsed]
def wsX4_jump_r3 : List Cond := [Cond.initialized RX1, Cond.code yX1_isUsed cX1_isUsed 2 (some .boolean), Cond.fieldLink RX1 9 "RowPages$Slots" "keys" "[I", Cond.methodLink RX4 219 yX3_ageOf, Cond.methodLink RX4 206 yX1_hasDeath, Cond.instanceMethod yX1_hasDeath, Cond.selects RX1 yX1_hasDeath yX1_hasDeath, Cond.code yX1_hasDeath cX1_hasDeath 2 (some .boolean), Cond.fieldLink RX1 28 "RowPages$Slots" "deaths" "[I", Cond.methodLink RX4 90 yX3_skip, Cond.instanceMethod yX3_skip, Cond.selects RX3 yX3_skip yX3_skip, Cond.code yX3_skip cX3_skip 2 (some .int)]
def wsX4_jump : List Cond := .code yX4_jump cX4_jump 3 (some .int) :: ((wsX4_jump_r1 ++ (wsX4_jump_r2 ++ wsX4_jump_r3)) ++ wsX40 ++ wsX10 ++ wsX30 ++ (vx_atS RX4 87 "java/lang/IllegalArgumentException" ["java/lang/RuntimeException", "java/lang/Exception"]).filter goodWord ++ (vx_atS RX4 53 "java/lang/IllegalStateException" ["java/lang/RuntimeException", "java/lang/Exception"]).filter goodWord)
def wsX4_stamp : List Cond := .code yX4_stamp cX4_stamp 2 (some .int) :: ([.fieldLink RX4 12 "RowPages" "transactions" "LRowPages$Transactions;", .fieldLink RX4 94 "RowPages$Transactions" "stamps" "[I", .methodLink RX4 65 yX4_checkTransaction, .instanceMethod yX4_checkTransaction, .selects RX4 yX4_checkTransaction yX4_checkTransaction, .initialized RX4, .code yX4_checkTransaction cX4_checkTransaction 2 none, .classLink RX4 233 "java/lang/IndexOutOfBoundsException", .initialized "java/lang/IndexOutOfBoundsException", .methodLink RX4 230 yX3_wereBegun, .instanceMethod yX3_wereBegun, .selects RX3 yX3_wereBegun yX3_wereBegun, .initialized RX3, .code yX3_wereBegun cX3_wereBegun 2 (some .boolean), .fieldLink RX3 19 "RowPages$Transactions" "count" "I"] ++ wsX40 ++ wsX30 ++ (vx_atS RX4 237 "java/lang/IndexOutOfBoundsException" ["java/lang/RuntimeException", "java/lang/Exception"]).filter goodWord)
def wsX4_checkStamp : List Cond := .code yX4_checkStamp cX4_checkStamp 1 none :: ([.classLink RX4 83 "java/lang/IllegalArgumentException", .initialized "java/lang/IllegalArgumentException"] ++ (vx_atS RX4 87 "java/lang/IllegalArgumentException" ["java/lang/RuntimeException", "java/lang/Exception"]).filter goodWord)
def wsX4_isBefore : List Cond := .code yX4_isBefore cX4_isBefore 3 (some .boolean) :: ([.methodLink RX4 98 yX4_checkStamp, .static yX4_checkStamp, .initialized RX4, .code yX4_checkStamp cX4_checkStamp 1 none, .classLink RX4 83 "java/lang/IllegalArgumentException", .initialized "java/lang/IllegalArgumentException", .methodLink RX4 101 yX4_distance, .static yX4_distance, .code yX4_distance cX4_distance 2 (some .int), .methodLink RX4 260 yJ9_floorMod_7cf53, .static yJ9_floorMod_7cf53, .initialized RJ9, .code yJ9_floorMod_7cf53 cJ9_floorMod_7cf53 3 (some .int)] ++ (vx_atS RX4 87 "java/lang/IllegalArgumentException" ["java/lang/RuntimeException", "java/lang/Exception"]).filter goodWord)
def wsX4_checkKey : List Cond := .code yX4_checkKey cX4_checkKey 1 none :: ([.classLink RX4 83 "java/lang/IllegalArgumentException", .initialized "java/lang/IllegalArgumentException"] ++ (vx_atS RX4 87 "java/lang/IllegalArgumentException" ["java/lang/RuntimeException", "java/lang/Exception"]).filter goodWord)
def wsX4_isPlace : List Cond := .code yX4_isPlace cX4_isPlace 1 (some .boolean) :: ([])
def wsX4_sees : List Cond := .code yX4_sees cX4_sees 4 (some .boolean) :: ([.fieldLink RX4 19 "RowPages" "slots" "LRowPages$Slots;", .fieldLink RX4 203 "RowPages$Slots" "frozen" "[Z", .fieldLink RX4 12 "RowPages" "transactions" "LRowPages$Transactions;", .fieldLink RX4 243 "RowPages$Slots" "births" "[I", .fieldLink RX4 247 "RowPages$Slots" "deaths" "[I", .methodLink RX4 127 yX3_knows, .instanceMethod yX3_knows, .selects RX3 yX3_knows yX3_knows, .initialized RX3, .code yX3_knows cX3_knows 3 (some .boolean), .fieldLink RX3 15 "RowPages$Transactions" "snapshots" "[J", .methodLink RX3 27 yX3_has, .static yX3_has, .code yX3_has cX3_has 3 (some .boolean)] ++ wsX40 ++ wsX10 ++ wsX30)
def wsX4_seenInChain : List Cond := .code yX4_seenInChain cX4_seenInChain 5 (some .int) :: ([.fieldLink RX4 19 "RowPages" "slots" "LRowPages$Slots;", .fieldLink RX4 157 "RowPages$Slots" "nexts" "[I", .methodLink RX4 111 yX4_isPlace, .static yX4_isPlace, .initialized RX4, .code yX4_isPlace cX4_isPlace 1 (some .boolean), .methodLink RX4 270 yX4_sees, .instanceMethod yX4_sees, .selects RX4 yX4_sees yX4_sees, .code yX4_sees cX4_sees 4 (some .boolean), .fieldLink RX4 203 "RowPages$Slots" "frozen" "[Z", .fieldLink RX4 12 "RowPages" "transactions" "LRowPages$Transactions;", .fieldLink RX4 243 "RowPages$Slots" "births" "[I", .fieldLink RX4 247 "RowPages$Slots" "deaths" "[I", .methodLink RX4 127 yX3_knows, .instanceMethod yX3_knows, .selects RX3 yX3_knows yX3_knows, .initialized RX3, .code yX3_knows cX3_knows 3 (some .boolean), .fieldLink RX3 15 "RowPages$Transactions" "snapshots" "[J", .methodLink RX3 27 yX3_has, .static yX3_has, .code yX3_has cX3_has 3 (some .boolean)] ++ wsX40 ++ wsX10 ++ wsX30)
def wsX4_seenPlace_r1 : List Cond := [Cond.fieldLink RX4 26 "RowPages" "index" "LRowPages$Index;", Cond.fieldLink RX4 209 "RowPages$Index" "counts" "[I", Cond.fieldLink RX4 263 "RowPages$Index" "places" "[[I", Cond.methodLink RX4 267 yX4_seenInChain, Cond.instanceMethod yX4_seenInChain, Cond.selects RX4 yX4_seenInChain yX4_seenInChain, Cond.initialized RX4, Cond.code yX4_seenInChain cX4_seenInChain 5 (some .int), Cond.fieldLink RX4 19 "RowPages" "slots" "LRowPages$Slots;", Cond.fieldLink RX4 157 "RowPages$Slots" "nexts" "[I", Cond.methodLink RX4 111 yX4_isPlace, Cond.static yX4_isPlace, Cond.code yX4_isPlace cX4_isPlace 1 (some .boolean), Cond.methodLink RX4 270 yX4_sees, Cond.instanceMethod yX4_sees, Cond.selects RX4 yX4_sees yX4_sees, Cond.code yX4_sees cX4_sees 4 (some .boolean), Cond.fieldLink RX4 203 "RowPages$Slots" "frozen" "[Z", Cond.fieldLink RX4 12 "RowPages" "transactions" "LRowPages$Transactions;", Cond.fieldLink RX4 243 "RowPages$Slots" "births" "[I", Cond.fieldLink RX4 247 "RowPages$Slots" "deaths" "[I", Cond.methodLink RX4 127 yX3_knows, Cond.instanceMethod yX3_knows, Cond.selects RX3 yX3_knows yX3_knows]
def wsX4_seenPlace_r2 : List Cond := [Cond.initialized RX3, Cond.code yX3_knows cX3_knows 3 (some .boolean), Cond.fieldLink RX3 15 "RowPages$Transactions" "snapshots" "[J", Cond.methodLink RX3 27 yX3_has, Cond.static yX3_has, Cond.code yX3_has cX3_has 3 (some .boolean)]
def wsX4_seenPlace : List Cond := .code yX4_seenPlace cX4_seenPlace 5 (some .int) :: ((wsX4_seenPlace_r1 ++ wsX4_seenPlace_r2) ++ wsX40 ++ wsX00 ++ wsX10 ++ wsX30)
def wsX4_read_r1 : List Cond := [Cond.fieldLink RX4 19 "RowPages" "slots" "LRowPages$Slots;", Cond.fieldLink RX4 115 "RowPages$Slots" "values" "[I", Cond.methodLink RX4 65 yX4_checkTransaction, Cond.instanceMethod yX4_checkTransaction, Cond.selects RX4 yX4_checkTransaction yX4_checkTransaction, Cond.initialized RX4, Cond.code yX4_checkTransaction cX4_checkTransaction 2 none, Cond.classLink RX4 233 "java/lang/IndexOutOfBoundsException", Cond.initialized "java/lang/IndexOutOfBoundsException", Cond.fieldLink RX4 12 "RowPages" "transactions" "LRowPages$Transactions;", Cond.methodLink RX4 230 yX3_wereBegun, Cond.instanceMethod yX3_wereBegun, Cond.selects RX3 yX3_wereBegun yX3_wereBegun, Cond.initialized RX3, Cond.code yX3_wereBegun cX3_wereBegun 2 (some .boolean), Cond.fieldLink RX3 19 "RowPages$Transactions" "count" "I", Cond.methodLink RX4 105 yX4_checkKey, Cond.static yX4_checkKey, Cond.code yX4_checkKey cX4_checkKey 1 none, Cond.classLink RX4 83 "java/lang/IllegalArgumentException", Cond.initialized "java/lang/IllegalArgumentException", Cond.methodLink RX4 69 yX4_checkActive, Cond.instanceMethod yX4_checkActive, Cond.selects RX4 yX4_checkActive yX4_checkActive]
def wsX4_read_r2 : List Cond := [Cond.code yX4_checkActive cX4_checkActive 2 none, Cond.classLink RX4 49 "java/lang/IllegalStateException", Cond.initialized "java/lang/IllegalStateException", Cond.methodLink RX4 238 yX3_isActive, Cond.instanceMethod yX3_isActive, Cond.selects RX3 yX3_isActive yX3_isActive, Cond.code yX3_isActive cX3_isActive 2 (some .boolean), Cond.fieldLink RX3 23 "RowPages$Transactions" "active" "J", Cond.methodLink RX3 27 yX3_has, Cond.static yX3_has, Cond.code yX3_has cX3_has 3 (some .boolean), Cond.methodLink RX4 108 yX4_seenPlace, Cond.instanceMethod yX4_seenPlace, Cond.selects RX4 yX4_seenPlace yX4_seenPlace, Cond.code yX4_seenPlace cX4_seenPlace 5 (some .int), Cond.fieldLink RX4 26 "RowPages" "index" "LRowPages$Index;", Cond.fieldLink RX4 209 "RowPages$Index" "counts" "[I", Cond.fieldLink RX4 263 "RowPages$Index" "places" "[[I", Cond.methodLink RX4 267 yX4_seenInChain, Cond.instanceMethod yX4_seenInChain, Cond.selects RX4 yX4_seenInChain yX4_seenInChain, Cond.code yX4_seenInChain cX4_seenInChain 5 (some .int), Cond.fieldLink RX4 157 "RowPages$Slots" "nexts" "[I", Cond.methodLink RX4 111 yX4_isPlace]
def wsX4_read_r3 : List Cond := [Cond.static yX4_isPlace, Cond.code yX4_isPlace cX4_isPlace 1 (some .boolean), Cond.methodLink RX4 270 yX4_sees, Cond.instanceMethod yX4_sees, Cond.selects RX4 yX4_sees yX4_sees, Cond.code yX4_sees cX4_sees 4 (some .boolean), Cond.fieldLink RX4 203 "RowPages$Slots" "frozen" "[Z", Cond.fieldLink RX4 243 "RowPages$Slots" "births" "[I", Cond.fieldLink RX4 247 "RowPages$Slots" "deaths" "[I", Cond.methodLink RX4 127 yX3_knows, Cond.instanceMethod yX3_knows, Cond.selects RX3 yX3_knows yX3_knows, Cond.code yX3_knows cX3_knows 3 (some .boolean), Cond.fieldLink RX3 15 "RowPages$Transactions" "snapshots" "[J"]
def wsX4_read : List Cond := .code yX4_read cX4_read 4 (some .int) :: ((wsX4_read_r1 ++ (wsX4_read_r2 ++ wsX4_read_r3)) ++ wsX40 ++ wsX10 ++ wsX30 ++ wsX00 ++ (vx_atS RX4 237 "java/lang/IndexOutOfBoundsException" ["java/lang/RuntimeException", "java/lang/Exception"]).filter goodWord ++ (vx_atS RX4 87 "java/lang/IllegalArgumentException" ["java/lang/RuntimeException", "java/lang/Exception"]).filter goodWord ++ (vx_atS RX4 53 "java/lang/IllegalStateException" ["java/lang/RuntimeException", "java/lang/Exception"]).filter goodWord)
def wsX4_readPlain_r1 : List Cond := [Cond.fieldLink RX4 33 "RowPages" "table" "LRowPages$Table;", Cond.fieldLink RX4 118 "RowPages$Table" "count" "I", Cond.fieldLink RX4 121 "RowPages$Table" "keys" "[I", Cond.fieldLink RX4 12 "RowPages" "transactions" "LRowPages$Transactions;", Cond.fieldLink RX4 124 "RowPages$Table" "births" "[I", Cond.fieldLink RX4 131 "RowPages$Table" "deaths" "[I", Cond.fieldLink RX4 134 "RowPages$Table" "values" "[I", Cond.methodLink RX4 65 yX4_checkTransaction, Cond.instanceMethod yX4_checkTransaction, Cond.selects RX4 yX4_checkTransaction yX4_checkTransaction, Cond.initialized RX4, Cond.code yX4_checkTransaction cX4_checkTransaction 2 none, Cond.classLink RX4 233 "java/lang/IndexOutOfBoundsException", Cond.initialized "java/lang/IndexOutOfBoundsException", Cond.methodLink RX4 230 yX3_wereBegun, Cond.instanceMethod yX3_wereBegun, Cond.selects RX3 yX3_wereBegun yX3_wereBegun, Cond.initialized RX3, Cond.code yX3_wereBegun cX3_wereBegun 2 (some .boolean), Cond.fieldLink RX3 19 "RowPages$Transactions" "count" "I", Cond.methodLink RX4 105 yX4_checkKey, Cond.static yX4_checkKey, Cond.code yX4_checkKey cX4_checkKey 1 none, Cond.classLink RX4 83 "java/lang/IllegalArgumentException"]
def wsX4_readPlain_r2 : List Cond := [Cond.initialized "java/lang/IllegalArgumentException", Cond.methodLink RX4 69 yX4_checkActive, Cond.instanceMethod yX4_checkActive, Cond.selects RX4 yX4_checkActive yX4_checkActive, Cond.code yX4_checkActive cX4_checkActive 2 none, Cond.classLink RX4 49 "java/lang/IllegalStateException", Cond.initialized "java/lang/IllegalStateException", Cond.methodLink RX4 238 yX3_isActive, Cond.instanceMethod yX3_isActive, Cond.selects RX3 yX3_isActive yX3_isActive, Cond.code yX3_isActive cX3_isActive 2 (some .boolean), Cond.fieldLink RX3 23 "RowPages$Transactions" "active" "J", Cond.methodLink RX3 27 yX3_has, Cond.static yX3_has, Cond.code yX3_has cX3_has 3 (some .boolean), Cond.methodLink RX4 127 yX3_knows, Cond.instanceMethod yX3_knows, Cond.selects RX3 yX3_knows yX3_knows, Cond.code yX3_knows cX3_knows 3 (some .boolean), Cond.fieldLink RX3 15 "RowPages$Transactions" "snapshots" "[J"]
def wsX4_readPlain : List Cond := .code yX4_readPlain cX4_readPlain 4 (some .int) :: ((wsX4_readPlain_r1 ++ wsX4_readPlain_r2) ++ wsX40 ++ wsX20 ++ wsX30 ++ (vx_atS RX4 237 "java/lang/IndexOutOfBoundsException" ["java/lang/RuntimeException", "java/lang/Exception"]).filter goodWord ++ (vx_atS RX4 87 "java/lang/IllegalArgumentException" ["java/lang/RuntimeException", "java/lang/Exception"]).filter goodWord ++ (vx_atS RX4 53 "java/lang/IllegalStateException" ["java/lang/RuntimeException", "java/lang/Exception"]).filter goodWord)
def wsX4_checkValue : List Cond := .code yX4_checkValue cX4_checkValue 1 none :: ([.classLink RX4 83 "java/lang/IllegalArgumentException", .initialized "java/lang/IllegalArgumentException"] ++ (vx_atS RX4 87 "java/lang/IllegalArgumentException" ["java/lang/RuntimeException", "java/lang/Exception"]).filter goodWord)
def wsX4_checkNotRefused : List Cond := .code yX4_checkNotRefused cX4_checkNotRefused 4 none :: ([.classLink RX4 49 "java/lang/IllegalStateException", .initialized "java/lang/IllegalStateException", .fieldLink RX4 19 "RowPages" "slots" "LRowPages$Slots;", .fieldLink RX4 202 "RowPages$Slots" "keys" "[I", .fieldLink RX4 12 "RowPages" "transactions" "LRowPages$Transactions;", .fieldLink RX4 243 "RowPages$Slots" "births" "[I", .fieldLink RX4 247 "RowPages$Slots" "deaths" "[I", .methodLink RX4 244 yX3_isRival, .instanceMethod yX3_isRival, .selects RX3 yX3_isRival yX3_isRival, .initialized RX3, .code yX3_isRival cX3_isRival 3 (some .boolean), .fieldLink RX3 23 "RowPages$Transactions" "active" "J", .fieldLink RX3 35 "RowPages$Transactions" "committed" "J", .methodLink RX3 27 yX3_has, .static yX3_has, .code yX3_has cX3_has 3 (some .boolean), .methodLink RX3 68 yX3_knows, .instanceMethod yX3_knows, .selects RX3 yX3_knows yX3_knows, .code yX3_knows cX3_knows 3 (some .boolean), .fieldLink RX3 15 "RowPages$Transactions" "snapshots" "[J"] ++ wsX40 ++ wsX10 ++ wsX30 ++ (vx_atS RX4 53 "java/lang/IllegalStateException" ["java/lang/RuntimeException", "java/lang/Exception"]).filter goodWord)
def wsX4_pageOf : List Cond := .code yX4_pageOf cX4_pageOf 1 (some .int) :: ([])
def wsX4_firstOf : List Cond := .code yX4_firstOf cX4_firstOf 1 (some .int) :: ([])
def wsX4_placeForNew : List Cond := .code yX4_placeForNew cX4_placeForNew 3 (some .int) :: ([.fieldLink RX4 19 "RowPages" "slots" "LRowPages$Slots;", .methodLink RX4 111 yX4_isPlace, .static yX4_isPlace, .initialized RX4, .code yX4_isPlace cX4_isPlace 1 (some .boolean), .methodLink RX4 154 yX4_pageOf, .static yX4_pageOf, .code yX4_pageOf cX4_pageOf 1 (some .int), .methodLink RX4 174 yX4_firstOf, .static yX4_firstOf, .code yX4_firstOf cX4_firstOf 1 (some .int), .methodLink RX4 273 yX1_lowestFree, .instanceMethod yX1_lowestFree, .selects RX1 yX1_lowestFree yX1_lowestFree, .initialized RX1, .code yX1_lowestFree cX1_lowestFree 4 (some .int), .methodLink RX1 44 yX1_isUsed, .instanceMethod yX1_isUsed, .selects RX1 yX1_isUsed yX1_isUsed, .code yX1_isUsed cX1_isUsed 2 (some .boolean), .fieldLink RX1 9 "RowPages$Slots" "keys" "[I"] ++ wsX40 ++ wsX10)
def wsX4_putDeath : List Cond := .code yX4_putDeath cX4_putDeath 3 none :: ([.fieldLink RX4 19 "RowPages" "slots" "LRowPages$Slots;", .fieldLink RX4 247 "RowPages$Slots" "deaths" "[I", .fieldLink RX4 227 "RowPages$Slots" "deathStamps" "[I", .fieldLink RX4 12 "RowPages" "transactions" "LRowPages$Transactions;", .fieldLink RX4 94 "RowPages$Transactions" "stamps" "[I", .fieldLink RX4 33 "RowPages" "table" "LRowPages$Table;", .fieldLink RX4 276 "RowPages$Slots" "rows" "[I", .fieldLink RX4 37 "RowPages" "mapped" "[Z", .methodLink RX4 279 yX2_putDeath, .instanceMethod yX2_putDeath, .selects RX2 yX2_putDeath yX2_putDeath, .initialized RX2, .code yX2_putDeath cX2_putDeath 3 none, .fieldLink RX2 24 "RowPages$Table" "count" "I", .fieldLink RX2 21 "RowPages$Table" "deaths" "[I", .methodLink RX4 154 yX4_pageOf, .static yX4_pageOf, .initialized RX4, .code yX4_pageOf cX4_pageOf 1 (some .int)] ++ wsX40 ++ wsX10 ++ wsX30 ++ wsX20)
def wsX4_putVersion : List Cond := .code yX4_putVersion cX4_putVersion 5 none :: ([.fieldLink RX4 19 "RowPages" "slots" "LRowPages$Slots;", .fieldLink RX4 202 "RowPages$Slots" "keys" "[I", .fieldLink RX4 115 "RowPages$Slots" "values" "[I", .fieldLink RX4 243 "RowPages$Slots" "births" "[I", .fieldLink RX4 216 "RowPages$Slots" "birthStamps" "[I", .fieldLink RX4 12 "RowPages" "transactions" "LRowPages$Transactions;", .fieldLink RX4 94 "RowPages$Transactions" "stamps" "[I", .fieldLink RX4 276 "RowPages$Slots" "rows" "[I", .fieldLink RX4 33 "RowPages" "table" "LRowPages$Table;", .fieldLink RX4 37 "RowPages" "mapped" "[Z", .methodLink RX4 280 yX2_add, .instanceMethod yX2_add, .selects RX2 yX2_add yX2_add, .initialized RX2, .code yX2_add cX2_add 5 (some .int), .fieldLink RX2 24 "RowPages$Table" "count" "I", .fieldLink RX2 9 "RowPages$Table" "keys" "[I", .fieldLink RX2 15 "RowPages$Table" "values" "[I", .fieldLink RX2 18 "RowPages$Table" "births" "[I", .fieldLink RX2 21 "RowPages$Table" "deaths" "[I", .methodLink RX4 154 yX4_pageOf, .static yX4_pageOf, .initialized RX4, .code yX4_pageOf cX4_pageOf 1 (some .int)] ++ wsX40 ++ wsX10 ++ wsX30 ++ wsX20)
def wsX4_slotOf : List Cond := .code yX4_slotOf cX4_slotOf 1 (some .int) :: ([])
def wsX4_write_r1 : List Cond := [Cond.classLink RX4 49 "java/lang/IllegalStateException", Cond.initialized "java/lang/IllegalStateException", Cond.fieldLink RX4 19 "RowPages" "slots" "LRowPages$Slots;", Cond.fieldLink RX4 157 "RowPages$Slots" "nexts" "[I", Cond.fieldLink RX4 26 "RowPages" "index" "LRowPages$Index;", Cond.constant RX4 166 (100000), Cond.methodLink RX4 65 yX4_checkTransaction, Cond.instanceMethod yX4_checkTransaction, Cond.selects RX4 yX4_checkTransaction yX4_checkTransaction, Cond.initialized RX4, Cond.code yX4_checkTransaction cX4_checkTransaction 2 none, Cond.classLink RX4 233 "java/lang/IndexOutOfBoundsException", Cond.initialized "java/lang/IndexOutOfBoundsException", Cond.fieldLink RX4 12 "RowPages" "transactions" "LRowPages$Transactions;", Cond.methodLink RX4 230 yX3_wereBegun, Cond.instanceMethod yX3_wereBegun, Cond.selects RX3 yX3_wereBegun yX3_wereBegun, Cond.initialized RX3, Cond.code yX3_wereBegun cX3_wereBegun 2 (some .boolean), Cond.fieldLink RX3 19 "RowPages$Transactions" "count" "I", Cond.methodLink RX4 105 yX4_checkKey, Cond.static yX4_checkKey, Cond.code yX4_checkKey cX4_checkKey 1 none, Cond.classLink RX4 83 "java/lang/IllegalArgumentException"]
def wsX4_write_r2 : List Cond := [Cond.initialized "java/lang/IllegalArgumentException", Cond.methodLink RX4 135 yX4_checkValue, Cond.static yX4_checkValue, Cond.code yX4_checkValue cX4_checkValue 1 none, Cond.methodLink RX4 69 yX4_checkActive, Cond.instanceMethod yX4_checkActive, Cond.selects RX4 yX4_checkActive yX4_checkActive, Cond.code yX4_checkActive cX4_checkActive 2 none, Cond.methodLink RX4 238 yX3_isActive, Cond.instanceMethod yX3_isActive, Cond.selects RX3 yX3_isActive yX3_isActive, Cond.code yX3_isActive cX3_isActive 2 (some .boolean), Cond.fieldLink RX3 23 "RowPages$Transactions" "active" "J", Cond.methodLink RX3 27 yX3_has, Cond.static yX3_has, Cond.code yX3_has cX3_has 3 (some .boolean), Cond.methodLink RX4 138 yX4_checkNotRefused, Cond.instanceMethod yX4_checkNotRefused, Cond.selects RX4 yX4_checkNotRefused yX4_checkNotRefused, Cond.code yX4_checkNotRefused cX4_checkNotRefused 4 none, Cond.fieldLink RX4 202 "RowPages$Slots" "keys" "[I", Cond.fieldLink RX4 243 "RowPages$Slots" "births" "[I", Cond.fieldLink RX4 247 "RowPages$Slots" "deaths" "[I", Cond.methodLink RX4 244 yX3_isRival]
def wsX4_write_r3 : List Cond := [Cond.instanceMethod yX3_isRival, Cond.selects RX3 yX3_isRival yX3_isRival, Cond.code yX3_isRival cX3_isRival 3 (some .boolean), Cond.fieldLink RX3 35 "RowPages$Transactions" "committed" "J", Cond.methodLink RX3 68 yX3_knows, Cond.instanceMethod yX3_knows, Cond.selects RX3 yX3_knows yX3_knows, Cond.code yX3_knows cX3_knows 3 (some .boolean), Cond.fieldLink RX3 15 "RowPages$Transactions" "snapshots" "[J", Cond.methodLink RX4 108 yX4_seenPlace, Cond.instanceMethod yX4_seenPlace, Cond.selects RX4 yX4_seenPlace yX4_seenPlace, Cond.code yX4_seenPlace cX4_seenPlace 5 (some .int), Cond.fieldLink RX4 209 "RowPages$Index" "counts" "[I", Cond.fieldLink RX4 263 "RowPages$Index" "places" "[[I", Cond.methodLink RX4 267 yX4_seenInChain, Cond.instanceMethod yX4_seenInChain, Cond.selects RX4 yX4_seenInChain yX4_seenInChain, Cond.code yX4_seenInChain cX4_seenInChain 5 (some .int), Cond.methodLink RX4 111 yX4_isPlace, Cond.static yX4_isPlace, Cond.code yX4_isPlace cX4_isPlace 1 (some .boolean), Cond.methodLink RX4 270 yX4_sees, Cond.instanceMethod yX4_sees]
def wsX4_write_r4 : List Cond := [Cond.selects RX4 yX4_sees yX4_sees, Cond.code yX4_sees cX4_sees 4 (some .boolean), Cond.fieldLink RX4 203 "RowPages$Slots" "frozen" "[Z", Cond.methodLink RX4 127 yX3_knows, Cond.methodLink RX4 142 yX4_placeForNew, Cond.instanceMethod yX4_placeForNew, Cond.selects RX4 yX4_placeForNew yX4_placeForNew, Cond.code yX4_placeForNew cX4_placeForNew 3 (some .int), Cond.methodLink RX4 154 yX4_pageOf, Cond.static yX4_pageOf, Cond.code yX4_pageOf cX4_pageOf 1 (some .int), Cond.methodLink RX4 174 yX4_firstOf, Cond.static yX4_firstOf, Cond.code yX4_firstOf cX4_firstOf 1 (some .int), Cond.methodLink RX4 273 yX1_lowestFree, Cond.instanceMethod yX1_lowestFree, Cond.selects RX1 yX1_lowestFree yX1_lowestFree, Cond.initialized RX1, Cond.code yX1_lowestFree cX1_lowestFree 4 (some .int), Cond.methodLink RX1 44 yX1_isUsed, Cond.instanceMethod yX1_isUsed, Cond.selects RX1 yX1_isUsed yX1_isUsed, Cond.code yX1_isUsed cX1_isUsed 2 (some .boolean), Cond.fieldLink RX1 9 "RowPages$Slots" "keys" "[I"]
def wsX4_write_r5 : List Cond := [Cond.methodLink RX4 147 yX4_putDeath, Cond.instanceMethod yX4_putDeath, Cond.selects RX4 yX4_putDeath yX4_putDeath, Cond.code yX4_putDeath cX4_putDeath 3 none, Cond.fieldLink RX4 227 "RowPages$Slots" "deathStamps" "[I", Cond.fieldLink RX4 94 "RowPages$Transactions" "stamps" "[I", Cond.fieldLink RX4 33 "RowPages" "table" "LRowPages$Table;", Cond.fieldLink RX4 276 "RowPages$Slots" "rows" "[I", Cond.fieldLink RX4 37 "RowPages" "mapped" "[Z", Cond.methodLink RX4 279 yX2_putDeath, Cond.instanceMethod yX2_putDeath, Cond.selects RX2 yX2_putDeath yX2_putDeath, Cond.initialized RX2, Cond.code yX2_putDeath cX2_putDeath 3 none, Cond.fieldLink RX2 24 "RowPages$Table" "count" "I", Cond.fieldLink RX2 21 "RowPages$Table" "deaths" "[I", Cond.methodLink RX4 150 yX4_putVersion, Cond.instanceMethod yX4_putVersion, Cond.selects RX4 yX4_putVersion yX4_putVersion, Cond.code yX4_putVersion cX4_putVersion 5 none, Cond.fieldLink RX4 115 "RowPages$Slots" "values" "[I", Cond.fieldLink RX4 216 "RowPages$Slots" "birthStamps" "[I", Cond.methodLink RX4 280 yX2_add, Cond.instanceMethod yX2_add]
def wsX4_write_r6 : List Cond := [Cond.selects RX2 yX2_add yX2_add, Cond.code yX2_add cX2_add 5 (some .int), Cond.fieldLink RX2 9 "RowPages$Table" "keys" "[I", Cond.fieldLink RX2 15 "RowPages$Table" "values" "[I", Cond.fieldLink RX2 18 "RowPages$Table" "births" "[I", Cond.methodLink RX4 160 yX0_add, Cond.instanceMethod yX0_add, Cond.selects RX0 yX0_add yX0_add, Cond.initialized RX0, Cond.code yX0_add cX0_add 3 none, Cond.fieldLink RX0 16 "RowPages$Index" "counts" "[I", Cond.fieldLink RX0 11 "RowPages$Index" "places" "[[I", Cond.methodLink RX4 163 yX4_slotOf, Cond.static yX4_slotOf, Cond.code yX4_slotOf cX4_slotOf 1 (some .int)]
def wsX4_write : List Cond := .code yX4_write cX4_write 7 (some .int) :: ((wsX4_write_r1 ++ (wsX4_write_r2 ++ (wsX4_write_r3 ++ (wsX4_write_r4 ++ (wsX4_write_r5 ++ wsX4_write_r6))))) ++ wsX40 ++ wsX10 ++ wsX30 ++ wsX00 ++ wsX20 ++ (vx_atS RX4 53 "java/lang/IllegalStateException" ["java/lang/RuntimeException", "java/lang/Exception"]).filter goodWord ++ (vx_atS RX4 237 "java/lang/IndexOutOfBoundsException" ["java/lang/RuntimeException", "java/lang/Exception"]).filter goodWord ++ (vx_atS RX4 87 "java/lang/IllegalArgumentException" ["java/lang/RuntimeException", "java/lang/Exception"]).filter goodWord)
def wsX4_delete_r1 : List Cond := [Cond.methodLink RX4 65 yX4_checkTransaction, Cond.instanceMethod yX4_checkTransaction, Cond.selects RX4 yX4_checkTransaction yX4_checkTransaction, Cond.initialized RX4, Cond.code yX4_checkTransaction cX4_checkTransaction 2 none, Cond.classLink RX4 233 "java/lang/IndexOutOfBoundsException", Cond.initialized "java/lang/IndexOutOfBoundsException", Cond.fieldLink RX4 12 "RowPages" "transactions" "LRowPages$Transactions;", Cond.methodLink RX4 230 yX3_wereBegun, Cond.instanceMethod yX3_wereBegun, Cond.selects RX3 yX3_wereBegun yX3_wereBegun, Cond.initialized RX3, Cond.code yX3_wereBegun cX3_wereBegun 2 (some .boolean), Cond.fieldLink RX3 19 "RowPages$Transactions" "count" "I", Cond.methodLink RX4 105 yX4_checkKey, Cond.static yX4_checkKey, Cond.code yX4_checkKey cX4_checkKey 1 none, Cond.classLink RX4 83 "java/lang/IllegalArgumentException", Cond.initialized "java/lang/IllegalArgumentException", Cond.methodLink RX4 69 yX4_checkActive, Cond.instanceMethod yX4_checkActive, Cond.selects RX4 yX4_checkActive yX4_checkActive, Cond.code yX4_checkActive cX4_checkActive 2 none, Cond.classLink RX4 49 "java/lang/IllegalStateException"]
def wsX4_delete_r2 : List Cond := [Cond.initialized "java/lang/IllegalStateException", Cond.methodLink RX4 238 yX3_isActive, Cond.instanceMethod yX3_isActive, Cond.selects RX3 yX3_isActive yX3_isActive, Cond.code yX3_isActive cX3_isActive 2 (some .boolean), Cond.fieldLink RX3 23 "RowPages$Transactions" "active" "J", Cond.methodLink RX3 27 yX3_has, Cond.static yX3_has, Cond.code yX3_has cX3_has 3 (some .boolean), Cond.methodLink RX4 108 yX4_seenPlace, Cond.instanceMethod yX4_seenPlace, Cond.selects RX4 yX4_seenPlace yX4_seenPlace, Cond.code yX4_seenPlace cX4_seenPlace 5 (some .int), Cond.fieldLink RX4 26 "RowPages" "index" "LRowPages$Index;", Cond.fieldLink RX4 209 "RowPages$Index" "counts" "[I", Cond.fieldLink RX4 263 "RowPages$Index" "places" "[[I", Cond.methodLink RX4 267 yX4_seenInChain, Cond.instanceMethod yX4_seenInChain, Cond.selects RX4 yX4_seenInChain yX4_seenInChain, Cond.code yX4_seenInChain cX4_seenInChain 5 (some .int), Cond.fieldLink RX4 19 "RowPages" "slots" "LRowPages$Slots;", Cond.fieldLink RX4 157 "RowPages$Slots" "nexts" "[I", Cond.methodLink RX4 111 yX4_isPlace, Cond.static yX4_isPlace]
def wsX4_delete_r3 : List Cond := [Cond.code yX4_isPlace cX4_isPlace 1 (some .boolean), Cond.methodLink RX4 270 yX4_sees, Cond.instanceMethod yX4_sees, Cond.selects RX4 yX4_sees yX4_sees, Cond.code yX4_sees cX4_sees 4 (some .boolean), Cond.fieldLink RX4 203 "RowPages$Slots" "frozen" "[Z", Cond.fieldLink RX4 243 "RowPages$Slots" "births" "[I", Cond.fieldLink RX4 247 "RowPages$Slots" "deaths" "[I", Cond.methodLink RX4 127 yX3_knows, Cond.instanceMethod yX3_knows, Cond.selects RX3 yX3_knows yX3_knows, Cond.code yX3_knows cX3_knows 3 (some .boolean), Cond.fieldLink RX3 15 "RowPages$Transactions" "snapshots" "[J", Cond.methodLink RX4 138 yX4_checkNotRefused, Cond.instanceMethod yX4_checkNotRefused, Cond.selects RX4 yX4_checkNotRefused yX4_checkNotRefused, Cond.code yX4_checkNotRefused cX4_checkNotRefused 4 none, Cond.fieldLink RX4 202 "RowPages$Slots" "keys" "[I", Cond.methodLink RX4 244 yX3_isRival, Cond.instanceMethod yX3_isRival, Cond.selects RX3 yX3_isRival yX3_isRival, Cond.code yX3_isRival cX3_isRival 3 (some .boolean), Cond.fieldLink RX3 35 "RowPages$Transactions" "committed" "J", Cond.methodLink RX3 68 yX3_knows]
def wsX4_delete_r4 : List Cond := [Cond.methodLink RX4 147 yX4_putDeath, Cond.instanceMethod yX4_putDeath, Cond.selects RX4 yX4_putDeath yX4_putDeath, Cond.code yX4_putDeath cX4_putDeath 3 none, Cond.fieldLink RX4 227 "RowPages$Slots" "deathStamps" "[I", Cond.fieldLink RX4 94 "RowPages$Transactions" "stamps" "[I", Cond.fieldLink RX4 33 "RowPages" "table" "LRowPages$Table;", Cond.fieldLink RX4 276 "RowPages$Slots" "rows" "[I", Cond.fieldLink RX4 37 "RowPages" "mapped" "[Z", Cond.methodLink RX4 279 yX2_putDeath, Cond.instanceMethod yX2_putDeath, Cond.selects RX2 yX2_putDeath yX2_putDeath, Cond.initialized RX2, Cond.code yX2_putDeath cX2_putDeath 3 none, Cond.fieldLink RX2 24 "RowPages$Table" "count" "I", Cond.fieldLink RX2 21 "RowPages$Table" "deaths" "[I", Cond.methodLink RX4 154 yX4_pageOf, Cond.static yX4_pageOf, Cond.code yX4_pageOf cX4_pageOf 1 (some .int)]
def wsX4_delete : List Cond := .code yX4_delete cX4_delete 4 (some .boolean) :: ((wsX4_delete_r1 ++ (wsX4_delete_r2 ++ (wsX4_delete_r3 ++ wsX4_delete_r4))) ++ wsX40 ++ wsX30 ++ wsX00 ++ wsX10 ++ wsX20 ++ (vx_atS RX4 237 "java/lang/IndexOutOfBoundsException" ["java/lang/RuntimeException", "java/lang/Exception"]).filter goodWord ++ (vx_atS RX4 87 "java/lang/IllegalArgumentException" ["java/lang/RuntimeException", "java/lang/Exception"]).filter goodWord ++ (vx_atS RX4 53 "java/lang/IllegalStateException" ["java/lang/RuntimeException", "java/lang/Exception"]).filter goodWord)
def wsX4_checkPage : List Cond := .code yX4_checkPage cX4_checkPage 1 none :: ([.classLink RX4 83 "java/lang/IllegalArgumentException", .initialized "java/lang/IllegalArgumentException"] ++ (vx_atS RX4 87 "java/lang/IllegalArgumentException" ["java/lang/RuntimeException", "java/lang/Exception"]).filter goodWord)
def wsX4_canGo_r1 : List Cond := [Cond.fieldLink RX4 19 "RowPages" "slots" "LRowPages$Slots;", Cond.fieldLink RX4 12 "RowPages" "transactions" "LRowPages$Transactions;", Cond.fieldLink RX4 243 "RowPages$Slots" "births" "[I", Cond.fieldLink RX4 247 "RowPages$Slots" "deaths" "[I", Cond.methodLink RX4 193 yX1_isUsed, Cond.instanceMethod yX1_isUsed, Cond.selects RX1 yX1_isUsed yX1_isUsed, Cond.initialized RX1, Cond.code yX1_isUsed cX1_isUsed 2 (some .boolean), Cond.fieldLink RX1 9 "RowPages$Slots" "keys" "[I", Cond.methodLink RX4 283 yX3_isTakenBack, Cond.instanceMethod yX3_isTakenBack, Cond.selects RX3 yX3_isTakenBack yX3_isTakenBack, Cond.initialized RX3, Cond.code yX3_isTakenBack cX3_isTakenBack 2 (some .boolean), Cond.fieldLink RX3 23 "RowPages$Transactions" "active" "J", Cond.fieldLink RX3 35 "RowPages$Transactions" "committed" "J", Cond.methodLink RX3 31 yX3_wereBegun, Cond.instanceMethod yX3_wereBegun, Cond.selects RX3 yX3_wereBegun yX3_wereBegun, Cond.code yX3_wereBegun cX3_wereBegun 2 (some .boolean), Cond.fieldLink RX3 19 "RowPages$Transactions" "count" "I", Cond.methodLink RX3 27 yX3_has, Cond.static yX3_has]
def wsX4_canGo_r2 : List Cond := [Cond.code yX3_has cX3_has 3 (some .boolean), Cond.methodLink RX4 286 yX3_has]
def wsX4_canGo : List Cond := .code yX4_canGo cX4_canGo 4 (some .boolean) :: ((wsX4_canGo_r1 ++ wsX4_canGo_r2) ++ wsX40 ++ wsX10 ++ wsX30)
def wsX4_takeOut_r1 : List Cond := [Cond.fieldLink RX4 19 "RowPages" "slots" "LRowPages$Slots;", Cond.fieldLink RX4 157 "RowPages$Slots" "nexts" "[I", Cond.fieldLink RX4 26 "RowPages" "index" "LRowPages$Index;", Cond.fieldLink RX4 202 "RowPages$Slots" "keys" "[I", Cond.methodLink RX4 290 yX1_bypass, Cond.instanceMethod yX1_bypass, Cond.selects RX1 yX1_bypass yX1_bypass, Cond.initialized RX1, Cond.code yX1_bypass cX1_bypass 4 none, Cond.fieldLink RX1 34 "RowPages$Slots" "nexts" "[I", Cond.methodLink RX4 293 yX0_move, Cond.instanceMethod yX0_move, Cond.selects RX0 yX0_move yX0_move, Cond.initialized RX0, Cond.code yX0_move cX0_move 7 none, Cond.fieldLink RX0 16 "RowPages$Index" "counts" "[I", Cond.fieldLink RX0 11 "RowPages$Index" "places" "[[I", Cond.methodLink RX4 297 yX1_empty, Cond.instanceMethod yX1_empty, Cond.selects RX1 yX1_empty yX1_empty, Cond.code yX1_empty cX1_empty 2 none, Cond.fieldLink RX1 9 "RowPages$Slots" "keys" "[I", Cond.fieldLink RX1 18 "RowPages$Slots" "births" "[I", Cond.fieldLink RX1 24 "RowPages$Slots" "frozen" "[Z"]
def wsX4_takeOut_r2 : List Cond := [Cond.fieldLink RX1 28 "RowPages$Slots" "deaths" "[I", Cond.fieldLink RX1 37 "RowPages$Slots" "rows" "[I"]
def wsX4_takeOut : List Cond := .code yX4_takeOut cX4_takeOut 3 none :: ((wsX4_takeOut_r1 ++ wsX4_takeOut_r2) ++ wsX40 ++ wsX10 ++ wsX00)
def wsX4_freezeOldOnes_r1 : List Cond := [Cond.fieldLink RX4 19 "RowPages" "slots" "LRowPages$Slots;", Cond.fieldLink RX4 12 "RowPages" "transactions" "LRowPages$Transactions;", Cond.fieldLink RX4 216 "RowPages$Slots" "birthStamps" "[I", Cond.fieldLink RX4 41 "RowPages" "freezingAge" "I", Cond.fieldLink RX4 243 "RowPages$Slots" "births" "[I", Cond.fieldLink RX4 203 "RowPages$Slots" "frozen" "[Z", Cond.methodLink RX4 174 yX4_firstOf, Cond.static yX4_firstOf, Cond.initialized RX4, Cond.code yX4_firstOf cX4_firstOf 1 (some .int), Cond.methodLink RX4 193 yX1_isUsed, Cond.instanceMethod yX1_isUsed, Cond.selects RX1 yX1_isUsed yX1_isUsed, Cond.initialized RX1, Cond.code yX1_isUsed cX1_isUsed 2 (some .boolean), Cond.fieldLink RX1 9 "RowPages$Slots" "keys" "[I", Cond.methodLink RX4 219 yX3_ageOf, Cond.instanceMethod yX3_ageOf, Cond.selects RX3 yX3_ageOf yX3_ageOf, Cond.initialized RX3, Cond.code yX3_ageOf cX3_ageOf 2 (some .int), Cond.fieldLink RX3 38 "RowPages$Transactions" "nextStamp" "I", Cond.static yX4_distance, Cond.code yX4_distance cX4_distance 2 (some .int)]
def wsX4_freezeOldOnes_r2 : List Cond := [Cond.methodLink RX4 260 yJ9_floorMod_7cf53, Cond.static yJ9_floorMod_7cf53, Cond.initialized RJ9, Cond.code yJ9_floorMod_7cf53 cJ9_floorMod_7cf53 3 (some .int), Cond.methodLink RX4 286 yX3_has, Cond.static yX3_has, Cond.code yX3_has cX3_has 3 (some .boolean)]
def wsX4_freezeOldOnes : List Cond := .code yX4_freezeOldOnes cX4_freezeOldOnes 5 none :: ((wsX4_freezeOldOnes_r1 ++ wsX4_freezeOldOnes_r2) ++ wsX40 ++ wsX10 ++ wsX30)
def wsX4_isSeenByAll : List Cond := .code yX4_isSeenByAll cX4_isSeenByAll 4 (some .boolean) :: ([.fieldLink RX4 19 "RowPages" "slots" "LRowPages$Slots;", .fieldLink RX4 203 "RowPages$Slots" "frozen" "[Z", .fieldLink RX4 243 "RowPages$Slots" "births" "[I", .methodLink RX4 206 yX1_hasDeath, .instanceMethod yX1_hasDeath, .selects RX1 yX1_hasDeath yX1_hasDeath, .initialized RX1, .code yX1_hasDeath cX1_hasDeath 2 (some .boolean), .fieldLink RX1 28 "RowPages$Slots" "deaths" "[I", .methodLink RX4 286 yX3_has, .static yX3_has, .initialized RX3, .code yX3_has cX3_has 3 (some .boolean)] ++ wsX40 ++ wsX10)
def wsX4_isWhole_r1 : List Cond := [Cond.fieldLink RX4 12 "RowPages" "transactions" "LRowPages$Transactions;", Cond.fieldLink RX4 19 "RowPages" "slots" "LRowPages$Slots;", Cond.methodLink RX4 167 yX4_checkPage, Cond.static yX4_checkPage, Cond.initialized RX4, Cond.code yX4_checkPage cX4_checkPage 1 none, Cond.classLink RX4 83 "java/lang/IllegalArgumentException", Cond.initialized "java/lang/IllegalArgumentException", Cond.methodLink RX4 170 yX3_settled, Cond.instanceMethod yX3_settled, Cond.selects RX3 yX3_settled yX3_settled, Cond.initialized RX3, Cond.code yX3_settled cX3_settled 4 (some .long), Cond.fieldLink RX3 35 "RowPages$Transactions" "committed" "J", Cond.fieldLink RX3 19 "RowPages$Transactions" "count" "I", Cond.fieldLink RX3 15 "RowPages$Transactions" "snapshots" "[J", Cond.methodLink RX3 57 yX3_isActive, Cond.instanceMethod yX3_isActive, Cond.selects RX3 yX3_isActive yX3_isActive, Cond.code yX3_isActive cX3_isActive 2 (some .boolean), Cond.fieldLink RX3 23 "RowPages$Transactions" "active" "J", Cond.methodLink RX3 27 yX3_has, Cond.static yX3_has, Cond.code yX3_has cX3_has 3 (some .boolean)]
def wsX4_isWhole_r2 : List Cond := [Cond.methodLink RX4 174 yX4_firstOf, Cond.static yX4_firstOf, Cond.code yX4_firstOf cX4_firstOf 1 (some .int), Cond.methodLink RX4 193 yX1_isUsed, Cond.instanceMethod yX1_isUsed, Cond.selects RX1 yX1_isUsed yX1_isUsed, Cond.initialized RX1, Cond.code yX1_isUsed cX1_isUsed 2 (some .boolean), Cond.fieldLink RX1 9 "RowPages$Slots" "keys" "[I", Cond.methodLink RX4 196 yX4_isSeenByAll, Cond.instanceMethod yX4_isSeenByAll, Cond.selects RX4 yX4_isSeenByAll yX4_isSeenByAll, Cond.code yX4_isSeenByAll cX4_isSeenByAll 4 (some .boolean), Cond.fieldLink RX4 203 "RowPages$Slots" "frozen" "[Z", Cond.fieldLink RX4 243 "RowPages$Slots" "births" "[I", Cond.methodLink RX4 206 yX1_hasDeath, Cond.instanceMethod yX1_hasDeath, Cond.selects RX1 yX1_hasDeath yX1_hasDeath, Cond.code yX1_hasDeath cX1_hasDeath 2 (some .boolean), Cond.fieldLink RX1 28 "RowPages$Slots" "deaths" "[I", Cond.methodLink RX4 286 yX3_has]
def wsX4_isWhole : List Cond := .code yX4_isWhole cX4_isWhole 5 (some .boolean) :: ((wsX4_isWhole_r1 ++ wsX4_isWhole_r2) ++ wsX40 ++ wsX30 ++ wsX10 ++ (vx_atS RX4 87 "java/lang/IllegalArgumentException" ["java/lang/RuntimeException", "java/lang/Exception"]).filter goodWord)
def wsX4_clean_r1 : List Cond := [Cond.fieldLink RX4 12 "RowPages" "transactions" "LRowPages$Transactions;", Cond.fieldLink RX4 37 "RowPages" "mapped" "[Z", Cond.methodLink RX4 167 yX4_checkPage, Cond.static yX4_checkPage, Cond.initialized RX4, Cond.code yX4_checkPage cX4_checkPage 1 none, Cond.classLink RX4 83 "java/lang/IllegalArgumentException", Cond.initialized "java/lang/IllegalArgumentException", Cond.methodLink RX4 170 yX3_settled, Cond.instanceMethod yX3_settled, Cond.selects RX3 yX3_settled yX3_settled, Cond.initialized RX3, Cond.code yX3_settled cX3_settled 4 (some .long), Cond.fieldLink RX3 35 "RowPages$Transactions" "committed" "J", Cond.fieldLink RX3 19 "RowPages$Transactions" "count" "I", Cond.fieldLink RX3 15 "RowPages$Transactions" "snapshots" "[J", Cond.methodLink RX3 57 yX3_isActive, Cond.instanceMethod yX3_isActive, Cond.selects RX3 yX3_isActive yX3_isActive, Cond.code yX3_isActive cX3_isActive 2 (some .boolean), Cond.fieldLink RX3 23 "RowPages$Transactions" "active" "J", Cond.methodLink RX3 27 yX3_has, Cond.static yX3_has, Cond.code yX3_has cX3_has 3 (some .boolean)]
def wsX4_clean_r2 : List Cond := [Cond.methodLink RX4 174 yX4_firstOf, Cond.static yX4_firstOf, Cond.code yX4_firstOf cX4_firstOf 1 (some .int), Cond.methodLink RX4 177 yX4_canGo, Cond.instanceMethod yX4_canGo, Cond.selects RX4 yX4_canGo yX4_canGo, Cond.code yX4_canGo cX4_canGo 4 (some .boolean), Cond.fieldLink RX4 19 "RowPages" "slots" "LRowPages$Slots;", Cond.fieldLink RX4 243 "RowPages$Slots" "births" "[I", Cond.fieldLink RX4 247 "RowPages$Slots" "deaths" "[I", Cond.methodLink RX4 193 yX1_isUsed, Cond.instanceMethod yX1_isUsed, Cond.selects RX1 yX1_isUsed yX1_isUsed, Cond.initialized RX1, Cond.code yX1_isUsed cX1_isUsed 2 (some .boolean), Cond.fieldLink RX1 9 "RowPages$Slots" "keys" "[I", Cond.methodLink RX4 283 yX3_isTakenBack, Cond.instanceMethod yX3_isTakenBack, Cond.selects RX3 yX3_isTakenBack yX3_isTakenBack, Cond.code yX3_isTakenBack cX3_isTakenBack 2 (some .boolean), Cond.methodLink RX3 31 yX3_wereBegun, Cond.instanceMethod yX3_wereBegun, Cond.selects RX3 yX3_wereBegun yX3_wereBegun, Cond.code yX3_wereBegun cX3_wereBegun 2 (some .boolean)]
def wsX4_clean_r3 : List Cond := [Cond.methodLink RX4 286 yX3_has, Cond.methodLink RX4 181 yX4_takeOut, Cond.instanceMethod yX4_takeOut, Cond.selects RX4 yX4_takeOut yX4_takeOut, Cond.code yX4_takeOut cX4_takeOut 3 none, Cond.fieldLink RX4 157 "RowPages$Slots" "nexts" "[I", Cond.fieldLink RX4 26 "RowPages" "index" "LRowPages$Index;", Cond.fieldLink RX4 202 "RowPages$Slots" "keys" "[I", Cond.methodLink RX4 290 yX1_bypass, Cond.instanceMethod yX1_bypass, Cond.selects RX1 yX1_bypass yX1_bypass, Cond.code yX1_bypass cX1_bypass 4 none, Cond.fieldLink RX1 34 "RowPages$Slots" "nexts" "[I", Cond.methodLink RX4 293 yX0_move, Cond.instanceMethod yX0_move, Cond.selects RX0 yX0_move yX0_move, Cond.initialized RX0, Cond.code yX0_move cX0_move 7 none, Cond.fieldLink RX0 16 "RowPages$Index" "counts" "[I", Cond.fieldLink RX0 11 "RowPages$Index" "places" "[[I", Cond.methodLink RX4 297 yX1_empty, Cond.instanceMethod yX1_empty, Cond.selects RX1 yX1_empty yX1_empty, Cond.code yX1_empty cX1_empty 2 none]
def wsX4_clean_r4 : List Cond := [Cond.fieldLink RX1 18 "RowPages$Slots" "births" "[I", Cond.fieldLink RX1 24 "RowPages$Slots" "frozen" "[Z", Cond.fieldLink RX1 28 "RowPages$Slots" "deaths" "[I", Cond.fieldLink RX1 37 "RowPages$Slots" "rows" "[I", Cond.methodLink RX4 184 yX4_freezeOldOnes, Cond.instanceMethod yX4_freezeOldOnes, Cond.selects RX4 yX4_freezeOldOnes yX4_freezeOldOnes, Cond.code yX4_freezeOldOnes cX4_freezeOldOnes 5 none, Cond.fieldLink RX4 216 "RowPages$Slots" "birthStamps" "[I", Cond.fieldLink RX4 41 "RowPages" "freezingAge" "I", Cond.fieldLink RX4 203 "RowPages$Slots" "frozen" "[Z", Cond.methodLink RX4 219 yX3_ageOf, Cond.instanceMethod yX3_ageOf, Cond.selects RX3 yX3_ageOf yX3_ageOf, Cond.code yX3_ageOf cX3_ageOf 2 (some .int), Cond.fieldLink RX3 38 "RowPages$Transactions" "nextStamp" "I", Cond.static yX4_distance, Cond.code yX4_distance cX4_distance 2 (some .int), Cond.methodLink RX4 260 yJ9_floorMod_7cf53, Cond.static yJ9_floorMod_7cf53, Cond.initialized RJ9, Cond.code yJ9_floorMod_7cf53 cJ9_floorMod_7cf53 3 (some .int), Cond.methodLink RX4 188 yX4_isWhole, Cond.instanceMethod yX4_isWhole]
def wsX4_clean_r5 : List Cond := [Cond.selects RX4 yX4_isWhole yX4_isWhole, Cond.code yX4_isWhole cX4_isWhole 5 (some .boolean), Cond.methodLink RX4 196 yX4_isSeenByAll, Cond.instanceMethod yX4_isSeenByAll, Cond.selects RX4 yX4_isSeenByAll yX4_isSeenByAll, Cond.code yX4_isSeenByAll cX4_isSeenByAll 4 (some .boolean), Cond.methodLink RX4 206 yX1_hasDeath, Cond.instanceMethod yX1_hasDeath, Cond.selects RX1 yX1_hasDeath yX1_hasDeath, Cond.code yX1_hasDeath cX1_hasDeath 2 (some .boolean)]
def wsX4_clean : List Cond := .code yX4_clean cX4_clean 6 (some .int) :: ((wsX4_clean_r1 ++ (wsX4_clean_r2 ++ (wsX4_clean_r3 ++ (wsX4_clean_r4 ++ wsX4_clean_r5)))) ++ wsX40 ++ wsX30 ++ wsX10 ++ wsX00 ++ (vx_atS RX4 87 "java/lang/IllegalArgumentException" ["java/lang/RuntimeException", "java/lang/Exception"]).filter goodWord)
def wsX4_setFreezing : List Cond := .code yX4_setFreezing cX4_setFreezing 3 (some .int) :: ([.classLink RX4 83 "java/lang/IllegalArgumentException", .initialized "java/lang/IllegalArgumentException", .fieldLink RX4 41 "RowPages" "freezingAge" "I"] ++ wsX40 ++ (vx_atS RX4 87 "java/lang/IllegalArgumentException" ["java/lang/RuntimeException", "java/lang/Exception"]).filter goodWord)
def wsX4_isMapped : List Cond := .code yX4_isMapped cX4_isMapped 2 (some .boolean) :: ([.fieldLink RX4 37 "RowPages" "mapped" "[Z", .methodLink RX4 167 yX4_checkPage, .static yX4_checkPage, .initialized RX4, .code yX4_checkPage cX4_checkPage 1 none, .classLink RX4 83 "java/lang/IllegalArgumentException", .initialized "java/lang/IllegalArgumentException"] ++ wsX40 ++ (vx_atS RX4 87 "java/lang/IllegalArgumentException" ["java/lang/RuntimeException", "java/lang/Exception"]).filter goodWord)
def wsX4_checkSlot : List Cond := .code yX4_checkSlot cX4_checkSlot 1 none :: ([.classLink RX4 83 "java/lang/IllegalArgumentException", .initialized "java/lang/IllegalArgumentException"] ++ (vx_atS RX4 87 "java/lang/IllegalArgumentException" ["java/lang/RuntimeException", "java/lang/Exception"]).filter goodWord)
def wsX4_slot_r1 : List Cond := [Cond.fieldLink RX4 19 "RowPages" "slots" "LRowPages$Slots;", Cond.fieldLink RX4 202 "RowPages$Slots" "keys" "[I", Cond.fieldLink RX4 203 "RowPages$Slots" "frozen" "[Z", Cond.fieldLink RX4 157 "RowPages$Slots" "nexts" "[I", Cond.methodLink RX4 167 yX4_checkPage, Cond.static yX4_checkPage, Cond.initialized RX4, Cond.code yX4_checkPage cX4_checkPage 1 none, Cond.classLink RX4 83 "java/lang/IllegalArgumentException", Cond.initialized "java/lang/IllegalArgumentException", Cond.methodLink RX4 199 yX4_checkSlot, Cond.static yX4_checkSlot, Cond.code yX4_checkSlot cX4_checkSlot 1 none, Cond.methodLink RX4 174 yX4_firstOf, Cond.static yX4_firstOf, Cond.code yX4_firstOf cX4_firstOf 1 (some .int), Cond.methodLink RX4 193 yX1_isUsed, Cond.instanceMethod yX1_isUsed, Cond.selects RX1 yX1_isUsed yX1_isUsed, Cond.initialized RX1, Cond.code yX1_isUsed cX1_isUsed 2 (some .boolean), Cond.fieldLink RX1 9 "RowPages$Slots" "keys" "[I", Cond.methodLink RX4 206 yX1_hasDeath, Cond.instanceMethod yX1_hasDeath]
def wsX4_slot_r2 : List Cond := [Cond.selects RX1 yX1_hasDeath yX1_hasDeath, Cond.code yX1_hasDeath cX1_hasDeath 2 (some .boolean), Cond.fieldLink RX1 28 "RowPages$Slots" "deaths" "[I", Cond.methodLink RX4 111 yX4_isPlace, Cond.static yX4_isPlace, Cond.code yX4_isPlace cX4_isPlace 1 (some .boolean), Cond.methodLink RX4 163 yX4_slotOf, Cond.static yX4_slotOf, Cond.code yX4_slotOf cX4_slotOf 1 (some .int)]
def wsX4_slot : List Cond := .code yX4_slot cX4_slot 5 (some .int) :: ((wsX4_slot_r1 ++ wsX4_slot_r2) ++ wsX40 ++ wsX10 ++ (vx_atS RX4 87 "java/lang/IllegalArgumentException" ["java/lang/RuntimeException", "java/lang/Exception"]).filter goodWord)
def wsX4_entries : List Cond := .code yX4_entries cX4_entries 2 (some .int) :: ([.fieldLink RX4 26 "RowPages" "index" "LRowPages$Index;", .fieldLink RX4 209 "RowPages$Index" "counts" "[I", .methodLink RX4 105 yX4_checkKey, .static yX4_checkKey, .initialized RX4, .code yX4_checkKey cX4_checkKey 1 none, .classLink RX4 83 "java/lang/IllegalArgumentException", .initialized "java/lang/IllegalArgumentException"] ++ wsX40 ++ wsX00 ++ (vx_atS RX4 87 "java/lang/IllegalArgumentException" ["java/lang/RuntimeException", "java/lang/Exception"]).filter goodWord)
def wsX4_fullness : List Cond := .code yX4_fullness cX4_fullness 4 (some .float) :: ([.fieldLink RX4 19 "RowPages" "slots" "LRowPages$Slots;", .constantFloat RX4 212 (1090519040), .methodLink RX4 167 yX4_checkPage, .static yX4_checkPage, .initialized RX4, .code yX4_checkPage cX4_checkPage 1 none, .classLink RX4 83 "java/lang/IllegalArgumentException", .initialized "java/lang/IllegalArgumentException", .methodLink RX4 174 yX4_firstOf, .static yX4_firstOf, .code yX4_firstOf cX4_firstOf 1 (some .int), .methodLink RX4 193 yX1_isUsed, .instanceMethod yX1_isUsed, .selects RX1 yX1_isUsed yX1_isUsed, .initialized RX1, .code yX1_isUsed cX1_isUsed 2 (some .boolean), .fieldLink RX1 9 "RowPages$Slots" "keys" "[I"] ++ wsX40 ++ wsX10 ++ (vx_atS RX4 87 "java/lang/IllegalArgumentException" ["java/lang/RuntimeException", "java/lang/Exception"]).filter goodWord)
def wsX5_init : List Cond := .code yX5_init cX5_init 1 none :: ([.methodLink RX5 1 objectInit, .instanceMethod objectInit, .code objectInit ⟨#[0xb1]⟩ 1 none, .fieldLink RX5 7 "RowPagesModel" "freezing" "I", .arrayClass .int, .fieldLink RX5 13 "RowPagesModel" "stamp" "[I", .fieldLink RX5 17 "RowPagesModel" "state" "[I", .arrayClass .long, .fieldLink RX5 20 "RowPagesModel" "snapshot" "[J", .arrayClass .boolean, .fieldLink RX5 24 "RowPagesModel" "isUsed" "[Z", .fieldLink RX5 28 "RowPagesModel" "key" "[I", .fieldLink RX5 31 "RowPagesModel" "value" "[I", .fieldLink RX5 34 "RowPagesModel" "birth" "[I", .fieldLink RX5 37 "RowPagesModel" "isFrozen" "[Z", .fieldLink RX5 40 "RowPagesModel" "death" "[I", .fieldLink RX5 43 "RowPagesModel" "next" "[I", .fieldLink RX5 46 "RowPagesModel" "isMapped" "[Z", .fieldLink RX5 49 "RowPagesModel" "entry" "[I", .fieldLink RX5 52 "RowPagesModel" "entries" "[I"] ++ wsX50)
def wsX5_thrown : List Cond := .code yX5_thrown cX5_thrown 1 (some .int) :: ([.fieldLink RX5 55 "RowPagesModel" "thrown" "I"] ++ wsX50)
def wsX5_isFine : List Cond := .code yX5_isFine cX5_isFine 2 (some .boolean) :: ([.fieldLink RX5 55 "RowPagesModel" "thrown" "I"] ++ wsX50)
def wsX5_isIn : List Cond := .code yX5_isIn cX5_isIn 3 (some .boolean) :: ([])
def wsX5_isTransaction : List Cond := .code yX5_isTransaction cX5_isTransaction 2 (some .boolean) :: ([.fieldLink RX5 58 "RowPagesModel" "transactions" "I", .methodLink RX5 61 yX5_isIn, .static yX5_isIn, .initialized RX5, .code yX5_isIn cX5_isIn 3 (some .boolean)] ++ wsX50)
def wsX5_isActive : List Cond := .code yX5_isActive cX5_isActive 2 (some .boolean) :: ([.fieldLink RX5 17 "RowPagesModel" "state" "[I"] ++ wsX50)
def wsX5_isKey : List Cond := .code yX5_isKey cX5_isKey 1 (some .boolean) :: ([.methodLink RX5 61 yX5_isIn, .static yX5_isIn, .initialized RX5, .code yX5_isIn cX5_isIn 3 (some .boolean)])
def wsX5_isPage : List Cond := .code yX5_isPage cX5_isPage 1 (some .boolean) :: ([.methodLink RX5 61 yX5_isIn, .static yX5_isIn, .initialized RX5, .code yX5_isIn cX5_isIn 3 (some .boolean)])
def wsX5_isInSnapshot : List Cond := .code yX5_isInSnapshot cX5_isInSnapshot 3 (some .boolean) :: ([.fieldLink RX5 20 "RowPagesModel" "snapshot" "[J"] ++ wsX50)
def wsX5_ageOf : List Cond := .code yX5_ageOf cX5_ageOf 2 (some .int) :: ([.fieldLink RX5 65 "RowPagesModel" "nextStamp" "I", .fieldLink RX5 13 "RowPagesModel" "stamp" "[I"] ++ wsX50)
def wsX5_isPast : List Cond := .code yX5_isPast cX5_isPast 4 (some .boolean) :: ([.fieldLink RX5 17 "RowPagesModel" "state" "[I", .fieldLink RX5 58 "RowPagesModel" "transactions" "I", .methodLink RX5 68 yX5_isActive, .instanceMethod yX5_isActive, .selects RX5 yX5_isActive yX5_isActive, .initialized RX5, .code yX5_isActive cX5_isActive 2 (some .boolean), .methodLink RX5 72 yX5_isInSnapshot, .instanceMethod yX5_isInSnapshot, .selects RX5 yX5_isInSnapshot yX5_isInSnapshot, .code yX5_isInSnapshot cX5_isInSnapshot 3 (some .boolean), .fieldLink RX5 20 "RowPagesModel" "snapshot" "[J"] ++ wsX50)
def wsX5_oldestNow : List Cond := .code yX5_oldestNow cX5_oldestNow 5 (some .int) :: ([.fieldLink RX5 24 "RowPagesModel" "isUsed" "[Z", .fieldLink RX5 37 "RowPagesModel" "isFrozen" "[Z", .fieldLink RX5 34 "RowPagesModel" "birth" "[I", .fieldLink RX5 40 "RowPagesModel" "death" "[I", .fieldLink RX5 58 "RowPagesModel" "transactions" "I", .methodLink RX5 76 yX5_ageOf, .instanceMethod yX5_ageOf, .selects RX5 yX5_ageOf yX5_ageOf, .initialized RX5, .code yX5_ageOf cX5_ageOf 2 (some .int), .fieldLink RX5 65 "RowPagesModel" "nextStamp" "I", .fieldLink RX5 13 "RowPagesModel" "stamp" "[I", .methodLink RX5 68 yX5_isActive, .instanceMethod yX5_isActive, .selects RX5 yX5_isActive yX5_isActive, .code yX5_isActive cX5_isActive 2 (some .boolean), .fieldLink RX5 17 "RowPagesModel" "state" "[I"] ++ wsX50)
def wsX5_begin_r1 : List Cond := [Cond.fieldLink RX5 58 "RowPagesModel" "transactions" "I", Cond.fieldLink RX5 17 "RowPagesModel" "state" "[I", Cond.fieldLink RX5 20 "RowPagesModel" "snapshot" "[J", Cond.fieldLink RX5 13 "RowPagesModel" "stamp" "[I", Cond.fieldLink RX5 65 "RowPagesModel" "nextStamp" "I", Cond.methodLink RX5 80 yX5_oldestNow, Cond.instanceMethod yX5_oldestNow, Cond.selects RX5 yX5_oldestNow yX5_oldestNow, Cond.initialized RX5, Cond.code yX5_oldestNow cX5_oldestNow 5 (some .int), Cond.fieldLink RX5 24 "RowPagesModel" "isUsed" "[Z", Cond.fieldLink RX5 37 "RowPagesModel" "isFrozen" "[Z", Cond.fieldLink RX5 34 "RowPagesModel" "birth" "[I", Cond.fieldLink RX5 40 "RowPagesModel" "death" "[I", Cond.methodLink RX5 76 yX5_ageOf, Cond.instanceMethod yX5_ageOf, Cond.selects RX5 yX5_ageOf yX5_ageOf, Cond.code yX5_ageOf cX5_ageOf 2 (some .int), Cond.methodLink RX5 68 yX5_isActive, Cond.instanceMethod yX5_isActive, Cond.selects RX5 yX5_isActive yX5_isActive, Cond.code yX5_isActive cX5_isActive 2 (some .boolean), Cond.methodLink RX5 84 yX5_isFine, Cond.instanceMethod yX5_isFine]
def wsX5_begin_r2 : List Cond := [Cond.selects RX5 yX5_isFine yX5_isFine, Cond.code yX5_isFine cX5_isFine 2 (some .boolean), Cond.fieldLink RX5 55 "RowPagesModel" "thrown" "I"]
def wsX5_begin : List Cond := .code yX5_begin cX5_begin 4 (some .int) :: ((wsX5_begin_r1 ++ wsX5_begin_r2) ++ wsX50)
def wsX5_end : List Cond := .code yX5_end cX5_end 6 (some .int) :: ([.fieldLink RX5 17 "RowPagesModel" "state" "[I", .fieldLink RX5 40 "RowPagesModel" "death" "[I", .fieldLink RX5 24 "RowPagesModel" "isUsed" "[Z", .fieldLink RX5 58 "RowPagesModel" "transactions" "I", .methodLink RX5 87 yX5_isTransaction, .instanceMethod yX5_isTransaction, .selects RX5 yX5_isTransaction yX5_isTransaction, .initialized RX5, .code yX5_isTransaction cX5_isTransaction 2 (some .boolean), .methodLink RX5 61 yX5_isIn, .static yX5_isIn, .code yX5_isIn cX5_isIn 3 (some .boolean), .methodLink RX5 68 yX5_isActive, .instanceMethod yX5_isActive, .selects RX5 yX5_isActive yX5_isActive, .code yX5_isActive cX5_isActive 2 (some .boolean), .methodLink RX5 84 yX5_isFine, .instanceMethod yX5_isFine, .selects RX5 yX5_isFine yX5_isFine, .code yX5_isFine cX5_isFine 2 (some .boolean), .fieldLink RX5 55 "RowPagesModel" "thrown" "I"] ++ wsX50)
def wsX5_jump_r1 : List Cond := [Cond.fieldLink RX5 65 "RowPagesModel" "nextStamp" "I", Cond.methodLink RX5 61 yX5_isIn, Cond.static yX5_isIn, Cond.initialized RX5, Cond.code yX5_isIn cX5_isIn 3 (some .boolean), Cond.methodLink RX5 80 yX5_oldestNow, Cond.instanceMethod yX5_oldestNow, Cond.selects RX5 yX5_oldestNow yX5_oldestNow, Cond.code yX5_oldestNow cX5_oldestNow 5 (some .int), Cond.fieldLink RX5 24 "RowPagesModel" "isUsed" "[Z", Cond.fieldLink RX5 37 "RowPagesModel" "isFrozen" "[Z", Cond.fieldLink RX5 34 "RowPagesModel" "birth" "[I", Cond.fieldLink RX5 40 "RowPagesModel" "death" "[I", Cond.fieldLink RX5 58 "RowPagesModel" "transactions" "I", Cond.methodLink RX5 76 yX5_ageOf, Cond.instanceMethod yX5_ageOf, Cond.selects RX5 yX5_ageOf yX5_ageOf, Cond.code yX5_ageOf cX5_ageOf 2 (some .int), Cond.fieldLink RX5 13 "RowPagesModel" "stamp" "[I", Cond.methodLink RX5 68 yX5_isActive, Cond.instanceMethod yX5_isActive, Cond.selects RX5 yX5_isActive yX5_isActive, Cond.code yX5_isActive cX5_isActive 2 (some .boolean), Cond.fieldLink RX5 17 "RowPagesModel" "state" "[I"]
def wsX5_jump_r2 : List Cond := [Cond.methodLink RX5 84 yX5_isFine, Cond.instanceMethod yX5_isFine, Cond.selects RX5 yX5_isFine yX5_isFine, Cond.code yX5_isFine cX5_isFine 2 (some .boolean), Cond.fieldLink RX5 55 "RowPagesModel" "thrown" "I"]
def wsX5_jump : List Cond := .code yX5_jump cX5_jump 2 (some .int) :: ((wsX5_jump_r1 ++ wsX5_jump_r2) ++ wsX50)
def wsX5_stamp : List Cond := .code yX5_stamp cX5_stamp 2 (some .int) :: ([.fieldLink RX5 13 "RowPagesModel" "stamp" "[I", .methodLink RX5 87 yX5_isTransaction, .instanceMethod yX5_isTransaction, .selects RX5 yX5_isTransaction yX5_isTransaction, .initialized RX5, .code yX5_isTransaction cX5_isTransaction 2 (some .boolean), .fieldLink RX5 58 "RowPagesModel" "transactions" "I", .methodLink RX5 61 yX5_isIn, .static yX5_isIn, .code yX5_isIn cX5_isIn 3 (some .boolean), .methodLink RX5 84 yX5_isFine, .instanceMethod yX5_isFine, .selects RX5 yX5_isFine yX5_isFine, .code yX5_isFine cX5_isFine 2 (some .boolean), .fieldLink RX5 55 "RowPagesModel" "thrown" "I"] ++ wsX50)
def wsX5_isBefore : List Cond := .code yX5_isBefore cX5_isBefore 4 (some .boolean) :: ([.methodLink RX5 61 yX5_isIn, .static yX5_isIn, .initialized RX5, .code yX5_isIn cX5_isIn 3 (some .boolean), .methodLink RX5 84 yX5_isFine, .instanceMethod yX5_isFine, .selects RX5 yX5_isFine yX5_isFine, .code yX5_isFine cX5_isFine 2 (some .boolean), .fieldLink RX5 55 "RowPagesModel" "thrown" "I"] ++ wsX50)
def wsX5_knows : List Cond := .code yX5_knows cX5_knows 3 (some .boolean) :: ([.methodLink RX5 72 yX5_isInSnapshot, .instanceMethod yX5_isInSnapshot, .selects RX5 yX5_isInSnapshot yX5_isInSnapshot, .initialized RX5, .code yX5_isInSnapshot cX5_isInSnapshot 3 (some .boolean), .fieldLink RX5 20 "RowPagesModel" "snapshot" "[J"] ++ wsX50)
def wsX5_sees : List Cond := .code yX5_sees cX5_sees 3 (some .boolean) :: ([.fieldLink RX5 37 "RowPagesModel" "isFrozen" "[Z", .fieldLink RX5 34 "RowPagesModel" "birth" "[I", .fieldLink RX5 40 "RowPagesModel" "death" "[I", .methodLink RX5 90 yX5_knows, .instanceMethod yX5_knows, .selects RX5 yX5_knows yX5_knows, .initialized RX5, .code yX5_knows cX5_knows 3 (some .boolean), .methodLink RX5 72 yX5_isInSnapshot, .instanceMethod yX5_isInSnapshot, .selects RX5 yX5_isInSnapshot yX5_isInSnapshot, .code yX5_isInSnapshot cX5_isInSnapshot 3 (some .boolean), .fieldLink RX5 20 "RowPagesModel" "snapshot" "[J"] ++ wsX50)
def wsX5_seen : List Cond := .code yX5_seen cX5_seen 5 (some .int) :: ([.fieldLink RX5 52 "RowPagesModel" "entries" "[I", .fieldLink RX5 49 "RowPagesModel" "entry" "[I", .fieldLink RX5 43 "RowPagesModel" "next" "[I", .methodLink RX5 93 yX5_sees, .instanceMethod yX5_sees, .selects RX5 yX5_sees yX5_sees, .initialized RX5, .code yX5_sees cX5_sees 3 (some .boolean), .fieldLink RX5 37 "RowPagesModel" "isFrozen" "[Z", .fieldLink RX5 34 "RowPagesModel" "birth" "[I", .fieldLink RX5 40 "RowPagesModel" "death" "[I", .methodLink RX5 90 yX5_knows, .instanceMethod yX5_knows, .selects RX5 yX5_knows yX5_knows, .code yX5_knows cX5_knows 3 (some .boolean), .methodLink RX5 72 yX5_isInSnapshot, .instanceMethod yX5_isInSnapshot, .selects RX5 yX5_isInSnapshot yX5_isInSnapshot, .code yX5_isInSnapshot cX5_isInSnapshot 3 (some .boolean), .fieldLink RX5 20 "RowPagesModel" "snapshot" "[J"] ++ wsX50)
def wsX5_readNow_r1 : List Cond := [Cond.fieldLink RX5 31 "RowPagesModel" "value" "[I", Cond.methodLink RX5 87 yX5_isTransaction, Cond.instanceMethod yX5_isTransaction, Cond.selects RX5 yX5_isTransaction yX5_isTransaction, Cond.initialized RX5, Cond.code yX5_isTransaction cX5_isTransaction 2 (some .boolean), Cond.fieldLink RX5 58 "RowPagesModel" "transactions" "I", Cond.methodLink RX5 61 yX5_isIn, Cond.static yX5_isIn, Cond.code yX5_isIn cX5_isIn 3 (some .boolean), Cond.methodLink RX5 96 yX5_isKey, Cond.static yX5_isKey, Cond.code yX5_isKey cX5_isKey 1 (some .boolean), Cond.methodLink RX5 68 yX5_isActive, Cond.instanceMethod yX5_isActive, Cond.selects RX5 yX5_isActive yX5_isActive, Cond.code yX5_isActive cX5_isActive 2 (some .boolean), Cond.fieldLink RX5 17 "RowPagesModel" "state" "[I", Cond.methodLink RX5 84 yX5_isFine, Cond.instanceMethod yX5_isFine, Cond.selects RX5 yX5_isFine yX5_isFine, Cond.code yX5_isFine cX5_isFine 2 (some .boolean), Cond.fieldLink RX5 55 "RowPagesModel" "thrown" "I", Cond.methodLink RX5 99 yX5_seen]
def wsX5_readNow_r2 : List Cond := [Cond.instanceMethod yX5_seen, Cond.selects RX5 yX5_seen yX5_seen, Cond.code yX5_seen cX5_seen 5 (some .int), Cond.fieldLink RX5 52 "RowPagesModel" "entries" "[I", Cond.fieldLink RX5 49 "RowPagesModel" "entry" "[I", Cond.fieldLink RX5 43 "RowPagesModel" "next" "[I", Cond.methodLink RX5 93 yX5_sees, Cond.instanceMethod yX5_sees, Cond.selects RX5 yX5_sees yX5_sees, Cond.code yX5_sees cX5_sees 3 (some .boolean), Cond.fieldLink RX5 37 "RowPagesModel" "isFrozen" "[Z", Cond.fieldLink RX5 34 "RowPagesModel" "birth" "[I", Cond.fieldLink RX5 40 "RowPagesModel" "death" "[I", Cond.methodLink RX5 90 yX5_knows, Cond.instanceMethod yX5_knows, Cond.selects RX5 yX5_knows yX5_knows, Cond.code yX5_knows cX5_knows 3 (some .boolean), Cond.methodLink RX5 72 yX5_isInSnapshot, Cond.instanceMethod yX5_isInSnapshot, Cond.selects RX5 yX5_isInSnapshot yX5_isInSnapshot, Cond.code yX5_isInSnapshot cX5_isInSnapshot 3 (some .boolean), Cond.fieldLink RX5 20 "RowPagesModel" "snapshot" "[J"]
def wsX5_readNow : List Cond := .code yX5_readNow cX5_readNow 5 (some .int) :: ((wsX5_readNow_r1 ++ wsX5_readNow_r2) ++ wsX50)
def wsX5_read_r1 : List Cond := [Cond.methodLink RX5 103 yX5_readNow, Cond.instanceMethod yX5_readNow, Cond.selects RX5 yX5_readNow yX5_readNow, Cond.initialized RX5, Cond.code yX5_readNow cX5_readNow 5 (some .int), Cond.fieldLink RX5 31 "RowPagesModel" "value" "[I", Cond.methodLink RX5 87 yX5_isTransaction, Cond.instanceMethod yX5_isTransaction, Cond.selects RX5 yX5_isTransaction yX5_isTransaction, Cond.code yX5_isTransaction cX5_isTransaction 2 (some .boolean), Cond.fieldLink RX5 58 "RowPagesModel" "transactions" "I", Cond.methodLink RX5 61 yX5_isIn, Cond.static yX5_isIn, Cond.code yX5_isIn cX5_isIn 3 (some .boolean), Cond.methodLink RX5 96 yX5_isKey, Cond.static yX5_isKey, Cond.code yX5_isKey cX5_isKey 1 (some .boolean), Cond.methodLink RX5 68 yX5_isActive, Cond.instanceMethod yX5_isActive, Cond.selects RX5 yX5_isActive yX5_isActive, Cond.code yX5_isActive cX5_isActive 2 (some .boolean), Cond.fieldLink RX5 17 "RowPagesModel" "state" "[I", Cond.methodLink RX5 84 yX5_isFine, Cond.instanceMethod yX5_isFine]
def wsX5_read_r2 : List Cond := [Cond.selects RX5 yX5_isFine yX5_isFine, Cond.code yX5_isFine cX5_isFine 2 (some .boolean), Cond.fieldLink RX5 55 "RowPagesModel" "thrown" "I", Cond.methodLink RX5 99 yX5_seen, Cond.instanceMethod yX5_seen, Cond.selects RX5 yX5_seen yX5_seen, Cond.code yX5_seen cX5_seen 5 (some .int), Cond.fieldLink RX5 52 "RowPagesModel" "entries" "[I", Cond.fieldLink RX5 49 "RowPagesModel" "entry" "[I", Cond.fieldLink RX5 43 "RowPagesModel" "next" "[I", Cond.methodLink RX5 93 yX5_sees, Cond.instanceMethod yX5_sees, Cond.selects RX5 yX5_sees yX5_sees, Cond.code yX5_sees cX5_sees 3 (some .boolean), Cond.fieldLink RX5 37 "RowPagesModel" "isFrozen" "[Z", Cond.fieldLink RX5 34 "RowPagesModel" "birth" "[I", Cond.fieldLink RX5 40 "RowPagesModel" "death" "[I", Cond.methodLink RX5 90 yX5_knows, Cond.instanceMethod yX5_knows, Cond.selects RX5 yX5_knows yX5_knows, Cond.code yX5_knows cX5_knows 3 (some .boolean), Cond.methodLink RX5 72 yX5_isInSnapshot, Cond.instanceMethod yX5_isInSnapshot, Cond.selects RX5 yX5_isInSnapshot yX5_isInSnapshot]
def wsX5_read_r3 : List Cond := [Cond.code yX5_isInSnapshot cX5_isInSnapshot 3 (some .boolean), Cond.fieldLink RX5 20 "RowPagesModel" "snapshot" "[J"]
def wsX5_read : List Cond := .code yX5_read cX5_read 3 (some .int) :: ((wsX5_read_r1 ++ (wsX5_read_r2 ++ wsX5_read_r3)) ++ wsX50)
def wsX5_readPlain_r1 : List Cond := [Cond.methodLink RX5 103 yX5_readNow, Cond.instanceMethod yX5_readNow, Cond.selects RX5 yX5_readNow yX5_readNow, Cond.initialized RX5, Cond.code yX5_readNow cX5_readNow 5 (some .int), Cond.fieldLink RX5 31 "RowPagesModel" "value" "[I", Cond.methodLink RX5 87 yX5_isTransaction, Cond.instanceMethod yX5_isTransaction, Cond.selects RX5 yX5_isTransaction yX5_isTransaction, Cond.code yX5_isTransaction cX5_isTransaction 2 (some .boolean), Cond.fieldLink RX5 58 "RowPagesModel" "transactions" "I", Cond.methodLink RX5 61 yX5_isIn, Cond.static yX5_isIn, Cond.code yX5_isIn cX5_isIn 3 (some .boolean), Cond.methodLink RX5 96 yX5_isKey, Cond.static yX5_isKey, Cond.code yX5_isKey cX5_isKey 1 (some .boolean), Cond.methodLink RX5 68 yX5_isActive, Cond.instanceMethod yX5_isActive, Cond.selects RX5 yX5_isActive yX5_isActive, Cond.code yX5_isActive cX5_isActive 2 (some .boolean), Cond.fieldLink RX5 17 "RowPagesModel" "state" "[I", Cond.methodLink RX5 84 yX5_isFine, Cond.instanceMethod yX5_isFine]
def wsX5_readPlain_r2 : List Cond := [Cond.selects RX5 yX5_isFine yX5_isFine, Cond.code yX5_isFine cX5_isFine 2 (some .boolean), Cond.fieldLink RX5 55 "RowPagesModel" "thrown" "I", Cond.methodLink RX5 99 yX5_seen, Cond.instanceMethod yX5_seen, Cond.selects RX5 yX5_seen yX5_seen, Cond.code yX5_seen cX5_seen 5 (some .int), Cond.fieldLink RX5 52 "RowPagesModel" "entries" "[I", Cond.fieldLink RX5 49 "RowPagesModel" "entry" "[I", Cond.fieldLink RX5 43 "RowPagesModel" "next" "[I", Cond.methodLink RX5 93 yX5_sees, Cond.instanceMethod yX5_sees, Cond.selects RX5 yX5_sees yX5_sees, Cond.code yX5_sees cX5_sees 3 (some .boolean), Cond.fieldLink RX5 37 "RowPagesModel" "isFrozen" "[Z", Cond.fieldLink RX5 34 "RowPagesModel" "birth" "[I", Cond.fieldLink RX5 40 "RowPagesModel" "death" "[I", Cond.methodLink RX5 90 yX5_knows, Cond.instanceMethod yX5_knows, Cond.selects RX5 yX5_knows yX5_knows, Cond.code yX5_knows cX5_knows 3 (some .boolean), Cond.methodLink RX5 72 yX5_isInSnapshot, Cond.instanceMethod yX5_isInSnapshot, Cond.selects RX5 yX5_isInSnapshot yX5_isInSnapshot]
def wsX5_readPlain_r3 : List Cond := [Cond.code yX5_isInSnapshot cX5_isInSnapshot 3 (some .boolean), Cond.fieldLink RX5 20 "RowPagesModel" "snapshot" "[J"]
def wsX5_readPlain : List Cond := .code yX5_readPlain cX5_readPlain 3 (some .int) :: ((wsX5_readPlain_r1 ++ (wsX5_readPlain_r2 ++ wsX5_readPlain_r3)) ++ wsX50)
def wsX5_bars : List Cond := .code yX5_bars cX5_bars 3 (some .boolean) :: ([.fieldLink RX5 17 "RowPagesModel" "state" "[I", .methodLink RX5 68 yX5_isActive, .instanceMethod yX5_isActive, .selects RX5 yX5_isActive yX5_isActive, .initialized RX5, .code yX5_isActive cX5_isActive 2 (some .boolean), .methodLink RX5 72 yX5_isInSnapshot, .instanceMethod yX5_isInSnapshot, .selects RX5 yX5_isInSnapshot yX5_isInSnapshot, .code yX5_isInSnapshot cX5_isInSnapshot 3 (some .boolean), .fieldLink RX5 20 "RowPagesModel" "snapshot" "[J"] ++ wsX50)
def wsX5_isRefused : List Cond := .code yX5_isRefused cX5_isRefused 5 (some .boolean) :: ([.fieldLink RX5 24 "RowPagesModel" "isUsed" "[Z", .fieldLink RX5 28 "RowPagesModel" "key" "[I", .fieldLink RX5 34 "RowPagesModel" "birth" "[I", .fieldLink RX5 40 "RowPagesModel" "death" "[I", .methodLink RX5 106 yX5_bars, .instanceMethod yX5_bars, .selects RX5 yX5_bars yX5_bars, .initialized RX5, .code yX5_bars cX5_bars 3 (some .boolean), .fieldLink RX5 17 "RowPagesModel" "state" "[I", .methodLink RX5 68 yX5_isActive, .instanceMethod yX5_isActive, .selects RX5 yX5_isActive yX5_isActive, .code yX5_isActive cX5_isActive 2 (some .boolean), .methodLink RX5 72 yX5_isInSnapshot, .instanceMethod yX5_isInSnapshot, .selects RX5 yX5_isInSnapshot yX5_isInSnapshot, .code yX5_isInSnapshot cX5_isInSnapshot 3 (some .boolean), .fieldLink RX5 20 "RowPagesModel" "snapshot" "[J"] ++ wsX50)
def wsX5_free : List Cond := .code yX5_free cX5_free 4 (some .int) :: ([.fieldLink RX5 24 "RowPagesModel" "isUsed" "[Z"] ++ wsX50)
def wsX5_puts : List Cond := .code yX5_puts cX5_puts 5 none :: ([.fieldLink RX5 24 "RowPagesModel" "isUsed" "[Z", .fieldLink RX5 28 "RowPagesModel" "key" "[I", .fieldLink RX5 31 "RowPagesModel" "value" "[I", .fieldLink RX5 34 "RowPagesModel" "birth" "[I", .fieldLink RX5 37 "RowPagesModel" "isFrozen" "[Z", .fieldLink RX5 40 "RowPagesModel" "death" "[I", .fieldLink RX5 43 "RowPagesModel" "next" "[I", .fieldLink RX5 46 "RowPagesModel" "isMapped" "[Z"] ++ wsX50)
def wsX5_dies : List Cond := .code yX5_dies cX5_dies 3 none :: ([.fieldLink RX5 40 "RowPagesModel" "death" "[I", .fieldLink RX5 46 "RowPagesModel" "isMapped" "[Z"] ++ wsX50)
def wsX5_write_r1 : List Cond := [Cond.fieldLink RX5 43 "RowPagesModel" "next" "[I", Cond.fieldLink RX5 49 "RowPagesModel" "entry" "[I", Cond.fieldLink RX5 52 "RowPagesModel" "entries" "[I", Cond.constant RX5 123 (100000), Cond.methodLink RX5 87 yX5_isTransaction, Cond.instanceMethod yX5_isTransaction, Cond.selects RX5 yX5_isTransaction yX5_isTransaction, Cond.initialized RX5, Cond.code yX5_isTransaction cX5_isTransaction 2 (some .boolean), Cond.fieldLink RX5 58 "RowPagesModel" "transactions" "I", Cond.methodLink RX5 61 yX5_isIn, Cond.static yX5_isIn, Cond.code yX5_isIn cX5_isIn 3 (some .boolean), Cond.methodLink RX5 96 yX5_isKey, Cond.static yX5_isKey, Cond.code yX5_isKey cX5_isKey 1 (some .boolean), Cond.methodLink RX5 68 yX5_isActive, Cond.instanceMethod yX5_isActive, Cond.selects RX5 yX5_isActive yX5_isActive, Cond.code yX5_isActive cX5_isActive 2 (some .boolean), Cond.fieldLink RX5 17 "RowPagesModel" "state" "[I", Cond.methodLink RX5 109 yX5_free, Cond.instanceMethod yX5_free, Cond.selects RX5 yX5_free yX5_free]
def wsX5_write_r2 : List Cond := [Cond.code yX5_free cX5_free 4 (some .int), Cond.fieldLink RX5 24 "RowPagesModel" "isUsed" "[Z", Cond.methodLink RX5 112 yX5_isRefused, Cond.instanceMethod yX5_isRefused, Cond.selects RX5 yX5_isRefused yX5_isRefused, Cond.code yX5_isRefused cX5_isRefused 5 (some .boolean), Cond.fieldLink RX5 28 "RowPagesModel" "key" "[I", Cond.fieldLink RX5 34 "RowPagesModel" "birth" "[I", Cond.fieldLink RX5 40 "RowPagesModel" "death" "[I", Cond.methodLink RX5 106 yX5_bars, Cond.instanceMethod yX5_bars, Cond.selects RX5 yX5_bars yX5_bars, Cond.code yX5_bars cX5_bars 3 (some .boolean), Cond.methodLink RX5 72 yX5_isInSnapshot, Cond.instanceMethod yX5_isInSnapshot, Cond.selects RX5 yX5_isInSnapshot yX5_isInSnapshot, Cond.code yX5_isInSnapshot cX5_isInSnapshot 3 (some .boolean), Cond.fieldLink RX5 20 "RowPagesModel" "snapshot" "[J", Cond.methodLink RX5 84 yX5_isFine, Cond.instanceMethod yX5_isFine, Cond.selects RX5 yX5_isFine yX5_isFine, Cond.code yX5_isFine cX5_isFine 2 (some .boolean), Cond.fieldLink RX5 55 "RowPagesModel" "thrown" "I", Cond.methodLink RX5 99 yX5_seen]
def wsX5_write_r3 : List Cond := [Cond.instanceMethod yX5_seen, Cond.selects RX5 yX5_seen yX5_seen, Cond.code yX5_seen cX5_seen 5 (some .int), Cond.methodLink RX5 93 yX5_sees, Cond.instanceMethod yX5_sees, Cond.selects RX5 yX5_sees yX5_sees, Cond.code yX5_sees cX5_sees 3 (some .boolean), Cond.fieldLink RX5 37 "RowPagesModel" "isFrozen" "[Z", Cond.methodLink RX5 90 yX5_knows, Cond.instanceMethod yX5_knows, Cond.selects RX5 yX5_knows yX5_knows, Cond.code yX5_knows cX5_knows 3 (some .boolean), Cond.methodLink RX5 115 yX5_puts, Cond.instanceMethod yX5_puts, Cond.selects RX5 yX5_puts yX5_puts, Cond.code yX5_puts cX5_puts 5 none, Cond.fieldLink RX5 31 "RowPagesModel" "value" "[I", Cond.fieldLink RX5 46 "RowPagesModel" "isMapped" "[Z", Cond.methodLink RX5 119 yX5_dies, Cond.instanceMethod yX5_dies, Cond.selects RX5 yX5_dies yX5_dies, Cond.code yX5_dies cX5_dies 3 none]
def wsX5_write : List Cond := .code yX5_write cX5_write 11 (some .int) :: ((wsX5_write_r1 ++ (wsX5_write_r2 ++ wsX5_write_r3)) ++ wsX50)
def wsX5_delete_r1 : List Cond := [Cond.methodLink RX5 87 yX5_isTransaction, Cond.instanceMethod yX5_isTransaction, Cond.selects RX5 yX5_isTransaction yX5_isTransaction, Cond.initialized RX5, Cond.code yX5_isTransaction cX5_isTransaction 2 (some .boolean), Cond.fieldLink RX5 58 "RowPagesModel" "transactions" "I", Cond.methodLink RX5 61 yX5_isIn, Cond.static yX5_isIn, Cond.code yX5_isIn cX5_isIn 3 (some .boolean), Cond.methodLink RX5 96 yX5_isKey, Cond.static yX5_isKey, Cond.code yX5_isKey cX5_isKey 1 (some .boolean), Cond.methodLink RX5 68 yX5_isActive, Cond.instanceMethod yX5_isActive, Cond.selects RX5 yX5_isActive yX5_isActive, Cond.code yX5_isActive cX5_isActive 2 (some .boolean), Cond.fieldLink RX5 17 "RowPagesModel" "state" "[I", Cond.methodLink RX5 99 yX5_seen, Cond.instanceMethod yX5_seen, Cond.selects RX5 yX5_seen yX5_seen, Cond.code yX5_seen cX5_seen 5 (some .int), Cond.fieldLink RX5 52 "RowPagesModel" "entries" "[I", Cond.fieldLink RX5 49 "RowPagesModel" "entry" "[I", Cond.fieldLink RX5 43 "RowPagesModel" "next" "[I"]
def wsX5_delete_r2 : List Cond := [Cond.methodLink RX5 93 yX5_sees, Cond.instanceMethod yX5_sees, Cond.selects RX5 yX5_sees yX5_sees, Cond.code yX5_sees cX5_sees 3 (some .boolean), Cond.fieldLink RX5 37 "RowPagesModel" "isFrozen" "[Z", Cond.fieldLink RX5 34 "RowPagesModel" "birth" "[I", Cond.fieldLink RX5 40 "RowPagesModel" "death" "[I", Cond.methodLink RX5 90 yX5_knows, Cond.instanceMethod yX5_knows, Cond.selects RX5 yX5_knows yX5_knows, Cond.code yX5_knows cX5_knows 3 (some .boolean), Cond.methodLink RX5 72 yX5_isInSnapshot, Cond.instanceMethod yX5_isInSnapshot, Cond.selects RX5 yX5_isInSnapshot yX5_isInSnapshot, Cond.code yX5_isInSnapshot cX5_isInSnapshot 3 (some .boolean), Cond.fieldLink RX5 20 "RowPagesModel" "snapshot" "[J", Cond.methodLink RX5 112 yX5_isRefused, Cond.instanceMethod yX5_isRefused, Cond.selects RX5 yX5_isRefused yX5_isRefused, Cond.code yX5_isRefused cX5_isRefused 5 (some .boolean), Cond.fieldLink RX5 24 "RowPagesModel" "isUsed" "[Z", Cond.fieldLink RX5 28 "RowPagesModel" "key" "[I", Cond.methodLink RX5 106 yX5_bars, Cond.instanceMethod yX5_bars]
def wsX5_delete_r3 : List Cond := [Cond.selects RX5 yX5_bars yX5_bars, Cond.code yX5_bars cX5_bars 3 (some .boolean), Cond.methodLink RX5 84 yX5_isFine, Cond.instanceMethod yX5_isFine, Cond.selects RX5 yX5_isFine yX5_isFine, Cond.code yX5_isFine cX5_isFine 2 (some .boolean), Cond.fieldLink RX5 55 "RowPagesModel" "thrown" "I", Cond.methodLink RX5 119 yX5_dies, Cond.instanceMethod yX5_dies, Cond.selects RX5 yX5_dies yX5_dies, Cond.code yX5_dies cX5_dies 3 none, Cond.fieldLink RX5 46 "RowPagesModel" "isMapped" "[Z"]
def wsX5_delete : List Cond := .code yX5_delete cX5_delete 7 (some .boolean) :: ((wsX5_delete_r1 ++ (wsX5_delete_r2 ++ wsX5_delete_r3)) ++ wsX50)
def wsX5_canGo : List Cond := .code yX5_canGo cX5_canGo 2 (some .boolean) :: ([.fieldLink RX5 24 "RowPagesModel" "isUsed" "[Z", .fieldLink RX5 17 "RowPagesModel" "state" "[I", .fieldLink RX5 34 "RowPagesModel" "birth" "[I", .fieldLink RX5 40 "RowPagesModel" "death" "[I", .methodLink RX5 124 yX5_isPast, .instanceMethod yX5_isPast, .selects RX5 yX5_isPast yX5_isPast, .initialized RX5, .code yX5_isPast cX5_isPast 4 (some .boolean), .fieldLink RX5 58 "RowPagesModel" "transactions" "I", .methodLink RX5 68 yX5_isActive, .instanceMethod yX5_isActive, .selects RX5 yX5_isActive yX5_isActive, .code yX5_isActive cX5_isActive 2 (some .boolean), .methodLink RX5 72 yX5_isInSnapshot, .instanceMethod yX5_isInSnapshot, .selects RX5 yX5_isInSnapshot yX5_isInSnapshot, .code yX5_isInSnapshot cX5_isInSnapshot 3 (some .boolean), .fieldLink RX5 20 "RowPagesModel" "snapshot" "[J"] ++ wsX50)
def wsX5_leaves : List Cond := .code yX5_leaves cX5_leaves 5 none :: ([.fieldLink RX5 43 "RowPagesModel" "next" "[I", .fieldLink RX5 24 "RowPagesModel" "isUsed" "[Z", .fieldLink RX5 28 "RowPagesModel" "key" "[I", .fieldLink RX5 52 "RowPagesModel" "entries" "[I", .fieldLink RX5 49 "RowPagesModel" "entry" "[I"] ++ wsX50)
def wsX5_isWholeNow : List Cond := .code yX5_isWholeNow cX5_isWholeNow 4 (some .boolean) :: ([.fieldLink RX5 24 "RowPagesModel" "isUsed" "[Z", .fieldLink RX5 40 "RowPagesModel" "death" "[I", .fieldLink RX5 37 "RowPagesModel" "isFrozen" "[Z", .fieldLink RX5 34 "RowPagesModel" "birth" "[I", .methodLink RX5 124 yX5_isPast, .instanceMethod yX5_isPast, .selects RX5 yX5_isPast yX5_isPast, .initialized RX5, .code yX5_isPast cX5_isPast 4 (some .boolean), .fieldLink RX5 17 "RowPagesModel" "state" "[I", .fieldLink RX5 58 "RowPagesModel" "transactions" "I", .methodLink RX5 68 yX5_isActive, .instanceMethod yX5_isActive, .selects RX5 yX5_isActive yX5_isActive, .code yX5_isActive cX5_isActive 2 (some .boolean), .methodLink RX5 72 yX5_isInSnapshot, .instanceMethod yX5_isInSnapshot, .selects RX5 yX5_isInSnapshot yX5_isInSnapshot, .code yX5_isInSnapshot cX5_isInSnapshot 3 (some .boolean), .fieldLink RX5 20 "RowPagesModel" "snapshot" "[J"] ++ wsX50)
def wsX5_clean_r1 : List Cond := [Cond.fieldLink RX5 37 "RowPagesModel" "isFrozen" "[Z", Cond.fieldLink RX5 24 "RowPagesModel" "isUsed" "[Z", Cond.fieldLink RX5 34 "RowPagesModel" "birth" "[I", Cond.fieldLink RX5 7 "RowPagesModel" "freezing" "I", Cond.fieldLink RX5 46 "RowPagesModel" "isMapped" "[Z", Cond.methodLink RX5 127 yX5_isPage, Cond.static yX5_isPage, Cond.initialized RX5, Cond.code yX5_isPage cX5_isPage 1 (some .boolean), Cond.methodLink RX5 61 yX5_isIn, Cond.static yX5_isIn, Cond.code yX5_isIn cX5_isIn 3 (some .boolean), Cond.methodLink RX5 84 yX5_isFine, Cond.instanceMethod yX5_isFine, Cond.selects RX5 yX5_isFine yX5_isFine, Cond.code yX5_isFine cX5_isFine 2 (some .boolean), Cond.fieldLink RX5 55 "RowPagesModel" "thrown" "I", Cond.methodLink RX5 130 yX5_canGo, Cond.instanceMethod yX5_canGo, Cond.selects RX5 yX5_canGo yX5_canGo, Cond.code yX5_canGo cX5_canGo 2 (some .boolean), Cond.fieldLink RX5 17 "RowPagesModel" "state" "[I", Cond.fieldLink RX5 40 "RowPagesModel" "death" "[I", Cond.methodLink RX5 124 yX5_isPast]
def wsX5_clean_r2 : List Cond := [Cond.instanceMethod yX5_isPast, Cond.selects RX5 yX5_isPast yX5_isPast, Cond.code yX5_isPast cX5_isPast 4 (some .boolean), Cond.fieldLink RX5 58 "RowPagesModel" "transactions" "I", Cond.methodLink RX5 68 yX5_isActive, Cond.instanceMethod yX5_isActive, Cond.selects RX5 yX5_isActive yX5_isActive, Cond.code yX5_isActive cX5_isActive 2 (some .boolean), Cond.methodLink RX5 72 yX5_isInSnapshot, Cond.instanceMethod yX5_isInSnapshot, Cond.selects RX5 yX5_isInSnapshot yX5_isInSnapshot, Cond.code yX5_isInSnapshot cX5_isInSnapshot 3 (some .boolean), Cond.fieldLink RX5 20 "RowPagesModel" "snapshot" "[J", Cond.methodLink RX5 133 yX5_leaves, Cond.instanceMethod yX5_leaves, Cond.selects RX5 yX5_leaves yX5_leaves, Cond.code yX5_leaves cX5_leaves 5 none, Cond.fieldLink RX5 43 "RowPagesModel" "next" "[I", Cond.fieldLink RX5 28 "RowPagesModel" "key" "[I", Cond.fieldLink RX5 52 "RowPagesModel" "entries" "[I", Cond.fieldLink RX5 49 "RowPagesModel" "entry" "[I", Cond.methodLink RX5 76 yX5_ageOf, Cond.instanceMethod yX5_ageOf, Cond.selects RX5 yX5_ageOf yX5_ageOf]
def wsX5_clean_r3 : List Cond := [Cond.code yX5_ageOf cX5_ageOf 2 (some .int), Cond.fieldLink RX5 65 "RowPagesModel" "nextStamp" "I", Cond.fieldLink RX5 13 "RowPagesModel" "stamp" "[I", Cond.methodLink RX5 137 yX5_isWholeNow, Cond.instanceMethod yX5_isWholeNow, Cond.selects RX5 yX5_isWholeNow yX5_isWholeNow, Cond.code yX5_isWholeNow cX5_isWholeNow 4 (some .boolean)]
def wsX5_clean : List Cond := .code yX5_clean cX5_clean 4 (some .int) :: ((wsX5_clean_r1 ++ (wsX5_clean_r2 ++ wsX5_clean_r3)) ++ wsX50)
def wsX5_setFreezing : List Cond := .code yX5_setFreezing cX5_setFreezing 3 (some .int) :: ([.fieldLink RX5 7 "RowPagesModel" "freezing" "I", .methodLink RX5 61 yX5_isIn, .static yX5_isIn, .initialized RX5, .code yX5_isIn cX5_isIn 3 (some .boolean), .methodLink RX5 84 yX5_isFine, .instanceMethod yX5_isFine, .selects RX5 yX5_isFine yX5_isFine, .code yX5_isFine cX5_isFine 2 (some .boolean), .fieldLink RX5 55 "RowPagesModel" "thrown" "I"] ++ wsX50)
def wsX5_isMapped : List Cond := .code yX5_isMapped cX5_isMapped 2 (some .boolean) :: ([.fieldLink RX5 46 "RowPagesModel" "isMapped" "[Z", .methodLink RX5 127 yX5_isPage, .static yX5_isPage, .initialized RX5, .code yX5_isPage cX5_isPage 1 (some .boolean), .methodLink RX5 61 yX5_isIn, .static yX5_isIn, .code yX5_isIn cX5_isIn 3 (some .boolean), .methodLink RX5 84 yX5_isFine, .instanceMethod yX5_isFine, .selects RX5 yX5_isFine yX5_isFine, .code yX5_isFine cX5_isFine 2 (some .boolean), .fieldLink RX5 55 "RowPagesModel" "thrown" "I"] ++ wsX50)
def wsX5_isWhole_r1 : List Cond := [Cond.methodLink RX5 127 yX5_isPage, Cond.static yX5_isPage, Cond.initialized RX5, Cond.code yX5_isPage cX5_isPage 1 (some .boolean), Cond.methodLink RX5 61 yX5_isIn, Cond.static yX5_isIn, Cond.code yX5_isIn cX5_isIn 3 (some .boolean), Cond.methodLink RX5 84 yX5_isFine, Cond.instanceMethod yX5_isFine, Cond.selects RX5 yX5_isFine yX5_isFine, Cond.code yX5_isFine cX5_isFine 2 (some .boolean), Cond.fieldLink RX5 55 "RowPagesModel" "thrown" "I", Cond.methodLink RX5 137 yX5_isWholeNow, Cond.instanceMethod yX5_isWholeNow, Cond.selects RX5 yX5_isWholeNow yX5_isWholeNow, Cond.code yX5_isWholeNow cX5_isWholeNow 4 (some .boolean), Cond.fieldLink RX5 24 "RowPagesModel" "isUsed" "[Z", Cond.fieldLink RX5 40 "RowPagesModel" "death" "[I", Cond.fieldLink RX5 37 "RowPagesModel" "isFrozen" "[Z", Cond.fieldLink RX5 34 "RowPagesModel" "birth" "[I", Cond.methodLink RX5 124 yX5_isPast, Cond.instanceMethod yX5_isPast, Cond.selects RX5 yX5_isPast yX5_isPast, Cond.code yX5_isPast cX5_isPast 4 (some .boolean)]
def wsX5_isWhole_r2 : List Cond := [Cond.fieldLink RX5 17 "RowPagesModel" "state" "[I", Cond.fieldLink RX5 58 "RowPagesModel" "transactions" "I", Cond.methodLink RX5 68 yX5_isActive, Cond.instanceMethod yX5_isActive, Cond.selects RX5 yX5_isActive yX5_isActive, Cond.code yX5_isActive cX5_isActive 2 (some .boolean), Cond.methodLink RX5 72 yX5_isInSnapshot, Cond.instanceMethod yX5_isInSnapshot, Cond.selects RX5 yX5_isInSnapshot yX5_isInSnapshot, Cond.code yX5_isInSnapshot cX5_isInSnapshot 3 (some .boolean), Cond.fieldLink RX5 20 "RowPagesModel" "snapshot" "[J"]
def wsX5_isWhole : List Cond := .code yX5_isWhole cX5_isWhole 2 (some .boolean) :: ((wsX5_isWhole_r1 ++ wsX5_isWhole_r2) ++ wsX50)
def wsX5_slot : List Cond := .code yX5_slot cX5_slot 4 (some .int) :: ([.fieldLink RX5 24 "RowPagesModel" "isUsed" "[Z", .fieldLink RX5 28 "RowPagesModel" "key" "[I", .fieldLink RX5 37 "RowPagesModel" "isFrozen" "[Z", .fieldLink RX5 40 "RowPagesModel" "death" "[I", .fieldLink RX5 43 "RowPagesModel" "next" "[I", .methodLink RX5 127 yX5_isPage, .static yX5_isPage, .initialized RX5, .code yX5_isPage cX5_isPage 1 (some .boolean), .methodLink RX5 61 yX5_isIn, .static yX5_isIn, .code yX5_isIn cX5_isIn 3 (some .boolean), .methodLink RX5 84 yX5_isFine, .instanceMethod yX5_isFine, .selects RX5 yX5_isFine yX5_isFine, .code yX5_isFine cX5_isFine 2 (some .boolean), .fieldLink RX5 55 "RowPagesModel" "thrown" "I"] ++ wsX50)
def wsX5_entries : List Cond := .code yX5_entries cX5_entries 2 (some .int) :: ([.fieldLink RX5 52 "RowPagesModel" "entries" "[I", .methodLink RX5 96 yX5_isKey, .static yX5_isKey, .initialized RX5, .code yX5_isKey cX5_isKey 1 (some .boolean), .methodLink RX5 61 yX5_isIn, .static yX5_isIn, .code yX5_isIn cX5_isIn 3 (some .boolean), .methodLink RX5 84 yX5_isFine, .instanceMethod yX5_isFine, .selects RX5 yX5_isFine yX5_isFine, .code yX5_isFine cX5_isFine 2 (some .boolean), .fieldLink RX5 55 "RowPagesModel" "thrown" "I"] ++ wsX50)
def wsX5_fullness : List Cond := .code yX5_fullness cX5_fullness 4 (some .float) :: ([.fieldLink RX5 24 "RowPagesModel" "isUsed" "[Z", .constantFloat RX5 140 (1090519040), .methodLink RX5 127 yX5_isPage, .static yX5_isPage, .initialized RX5, .code yX5_isPage cX5_isPage 1 (some .boolean), .methodLink RX5 61 yX5_isIn, .static yX5_isIn, .code yX5_isIn cX5_isIn 3 (some .boolean), .methodLink RX5 84 yX5_isFine, .instanceMethod yX5_isFine, .selects RX5 yX5_isFine yX5_isFine, .code yX5_isFine cX5_isFine 2 (some .boolean), .fieldLink RX5 55 "RowPagesModel" "thrown" "I"] ++ wsX50)
def wsX5_oldest : List Cond := .code yX5_oldest cX5_oldest 1 (some .int) :: ([.fieldLink RX5 55 "RowPagesModel" "thrown" "I", .methodLink RX5 80 yX5_oldestNow, .instanceMethod yX5_oldestNow, .selects RX5 yX5_oldestNow yX5_oldestNow, .initialized RX5, .code yX5_oldestNow cX5_oldestNow 5 (some .int), .fieldLink RX5 24 "RowPagesModel" "isUsed" "[Z", .fieldLink RX5 37 "RowPagesModel" "isFrozen" "[Z", .fieldLink RX5 34 "RowPagesModel" "birth" "[I", .fieldLink RX5 40 "RowPagesModel" "death" "[I", .fieldLink RX5 58 "RowPagesModel" "transactions" "I", .methodLink RX5 76 yX5_ageOf, .instanceMethod yX5_ageOf, .selects RX5 yX5_ageOf yX5_ageOf, .code yX5_ageOf cX5_ageOf 2 (some .int), .fieldLink RX5 65 "RowPagesModel" "nextStamp" "I", .fieldLink RX5 13 "RowPagesModel" "stamp" "[I", .methodLink RX5 68 yX5_isActive, .instanceMethod yX5_isActive, .selects RX5 yX5_isActive yX5_isActive, .code yX5_isActive cX5_isActive 2 (some .boolean), .fieldLink RX5 17 "RowPagesModel" "state" "[I"] ++ wsX50)
def wsJ9_max_7cf53 : List Cond := .code yJ9_max_7cf53 cJ9_max_7cf53 2 (some .int) :: ([])
def wsL_begin_r1 : List Cond := [Cond.classLink RL 13 "java/lang/IllegalStateException", Cond.methodLink RL 7 yX4_begin, Cond.instanceMethod yX4_begin, Cond.selects RX4 yX4_begin yX4_begin, Cond.initialized RX4, Cond.code yX4_begin cX4_begin 1 (some .int), Cond.classLink RX4 49 "java/lang/IllegalStateException", Cond.initialized "java/lang/IllegalStateException", Cond.fieldLink RX4 12 "RowPages" "transactions" "LRowPages$Transactions;", Cond.methodLink RX4 45 yX3_areAllUsed, Cond.instanceMethod yX3_areAllUsed, Cond.selects RX3 yX3_areAllUsed yX3_areAllUsed, Cond.initialized RX3, Cond.code yX3_areAllUsed cX3_areAllUsed 1 (some .boolean), Cond.fieldLink RX3 19 "RowPages$Transactions" "count" "I", Cond.methodLink RX4 56 yX4_oldest, Cond.instanceMethod yX4_oldest, Cond.selects RX4 yX4_oldest yX4_oldest, Cond.code yX4_oldest cX4_oldest 3 (some .int), Cond.fieldLink RX4 19 "RowPages" "slots" "LRowPages$Slots;", Cond.fieldLink RX4 203 "RowPages$Slots" "frozen" "[Z", Cond.fieldLink RX4 216 "RowPages$Slots" "birthStamps" "[I", Cond.methodLink RX4 222 Lib.Math.max.name, Cond.static Lib.Math.max.name]
def wsL_begin_r2 : List Cond := [Cond.initialized "java/lang/Math", Cond.code Lib.Math.max.name Lib.Math.max.code 2 (some .int), Cond.fieldLink RX4 227 "RowPages$Slots" "deathStamps" "[I", Cond.methodLink RX4 213 yX3_oldestActiveAge, Cond.instanceMethod yX3_oldestActiveAge, Cond.selects RX3 yX3_oldestActiveAge yX3_oldestActiveAge, Cond.code yX3_oldestActiveAge cX3_oldestActiveAge 3 (some .int), Cond.fieldLink RX3 9 "RowPages$Transactions" "stamps" "[I", Cond.methodLink RX3 63 Lib.Math.max.name, Cond.methodLink RX3 57 yX3_isActive, Cond.instanceMethod yX3_isActive, Cond.selects RX3 yX3_isActive yX3_isActive, Cond.code yX3_isActive cX3_isActive 2 (some .boolean), Cond.fieldLink RX3 23 "RowPages$Transactions" "active" "J", Cond.methodLink RX3 27 yX3_has, Cond.static yX3_has, Cond.code yX3_has cX3_has 3 (some .boolean), Cond.methodLink RX3 60 yX3_ageOf, Cond.instanceMethod yX3_ageOf, Cond.selects RX3 yX3_ageOf yX3_ageOf, Cond.code yX3_ageOf cX3_ageOf 2 (some .int), Cond.fieldLink RX3 38 "RowPages$Transactions" "nextStamp" "I", Cond.static yX4_distance, Cond.code yX4_distance cX4_distance 2 (some .int)]
def wsL_begin_r3 : List Cond := [Cond.methodLink RX4 260 yJ9_floorMod_7cf53, Cond.static yJ9_floorMod_7cf53, Cond.initialized RJ9, Cond.code yJ9_floorMod_7cf53 cJ9_floorMod_7cf53 3 (some .int), Cond.methodLink RX4 193 yX1_isUsed, Cond.instanceMethod yX1_isUsed, Cond.selects RX1 yX1_isUsed yX1_isUsed, Cond.initialized RX1, Cond.code yX1_isUsed cX1_isUsed 2 (some .boolean), Cond.fieldLink RX1 9 "RowPages$Slots" "keys" "[I", Cond.methodLink RX4 219 yX3_ageOf, Cond.methodLink RX4 206 yX1_hasDeath, Cond.instanceMethod yX1_hasDeath, Cond.selects RX1 yX1_hasDeath yX1_hasDeath, Cond.code yX1_hasDeath cX1_hasDeath 2 (some .boolean), Cond.fieldLink RX1 28 "RowPages$Slots" "deaths" "[I", Cond.methodLink RX4 62 yX3_start, Cond.instanceMethod yX3_start, Cond.selects RX3 yX3_start yX3_start, Cond.code yX3_start cX3_start 2 (some .int), Cond.fieldLink RX3 15 "RowPages$Transactions" "snapshots" "[J", Cond.fieldLink RX3 35 "RowPages$Transactions" "committed" "J", Cond.methodLink RX3 41 yX3_skip, Cond.instanceMethod yX3_skip]
def wsL_begin_r4 : List Cond := [Cond.selects RX3 yX3_skip yX3_skip, Cond.code yX3_skip cX3_skip 2 (some .int)]
def wsL_begin : List Cond := .codeWith yL_begin cL_begin 3 (some .int) [(0, 8, 11, 13)] :: ((wsL_begin_r1 ++ (wsL_begin_r2 ++ (wsL_begin_r3 ++ wsL_begin_r4))) ++ wsX40 ++ wsX30 ++ wsX10 ++ (vx_atS RX4 53 "java/lang/IllegalStateException" ["java/lang/RuntimeException", "java/lang/Exception"]).filter goodWord)
def wsL_end_r1 : List Cond := [Cond.classLink RL 19 "java/lang/IndexOutOfBoundsException", Cond.classLink RL 13 "java/lang/IllegalStateException", Cond.methodLink RL 15 yX4_end, Cond.instanceMethod yX4_end, Cond.selects RX4 yX4_end yX4_end, Cond.initialized RX4, Cond.code yX4_end cX4_end 3 (some .int), Cond.fieldLink RX4 12 "RowPages" "transactions" "LRowPages$Transactions;", Cond.fieldLink RX4 19 "RowPages" "slots" "LRowPages$Slots;", Cond.fieldLink RX4 33 "RowPages" "table" "LRowPages$Table;", Cond.methodLink RX4 65 yX4_checkTransaction, Cond.instanceMethod yX4_checkTransaction, Cond.selects RX4 yX4_checkTransaction yX4_checkTransaction, Cond.code yX4_checkTransaction cX4_checkTransaction 2 none, Cond.classLink RX4 233 "java/lang/IndexOutOfBoundsException", Cond.initialized "java/lang/IndexOutOfBoundsException", Cond.methodLink RX4 230 yX3_wereBegun, Cond.instanceMethod yX3_wereBegun, Cond.selects RX3 yX3_wereBegun yX3_wereBegun, Cond.initialized RX3, Cond.code yX3_wereBegun cX3_wereBegun 2 (some .boolean), Cond.fieldLink RX3 19 "RowPages$Transactions" "count" "I", Cond.methodLink RX4 69 yX4_checkActive, Cond.instanceMethod yX4_checkActive]
def wsL_end_r2 : List Cond := [Cond.selects RX4 yX4_checkActive yX4_checkActive, Cond.code yX4_checkActive cX4_checkActive 2 none, Cond.classLink RX4 49 "java/lang/IllegalStateException", Cond.initialized "java/lang/IllegalStateException", Cond.methodLink RX4 238 yX3_isActive, Cond.instanceMethod yX3_isActive, Cond.selects RX3 yX3_isActive yX3_isActive, Cond.code yX3_isActive cX3_isActive 2 (some .boolean), Cond.fieldLink RX3 23 "RowPages$Transactions" "active" "J", Cond.methodLink RX3 27 yX3_has, Cond.static yX3_has, Cond.code yX3_has cX3_has 3 (some .boolean), Cond.methodLink RX4 72 yX3_finish, Cond.instanceMethod yX3_finish, Cond.selects RX3 yX3_finish yX3_finish, Cond.code yX3_finish cX3_finish 3 none, Cond.constantLong RX3 45 (-1), Cond.fieldLink RX3 35 "RowPages$Transactions" "committed" "J", Cond.methodLink RX4 76 yX1_takeOffDeaths, Cond.instanceMethod yX1_takeOffDeaths, Cond.selects RX1 yX1_takeOffDeaths yX1_takeOffDeaths, Cond.initialized RX1, Cond.code yX1_takeOffDeaths cX1_takeOffDeaths 3 none, Cond.fieldLink RX1 28 "RowPages$Slots" "deaths" "[I"]
def wsL_end_r3 : List Cond := [Cond.methodLink RX4 79 yX2_takeOffDeaths, Cond.instanceMethod yX2_takeOffDeaths, Cond.selects RX2 yX2_takeOffDeaths yX2_takeOffDeaths, Cond.initialized RX2, Cond.code yX2_takeOffDeaths cX2_takeOffDeaths 3 none, Cond.fieldLink RX2 24 "RowPages$Table" "count" "I", Cond.fieldLink RX2 21 "RowPages$Table" "deaths" "[I", Cond.methodLink RX4 80 yX3_activeCount, Cond.instanceMethod yX3_activeCount, Cond.selects RX3 yX3_activeCount yX3_activeCount, Cond.code yX3_activeCount cX3_activeCount 1 (some .int), Cond.methodLink RX3 47 yJ13_bitCount_95d88, Cond.static yJ13_bitCount_95d88, Cond.initialized RJ13, Cond.code yJ13_bitCount_95d88 cJ13_bitCount_95d88 2 (some .int), Cond.constantLong RJ13 314 (6148914691236517205), Cond.constantLong RJ13 316 (3689348814741910323), Cond.constantLong RJ13 318 (1085102592571150095)]
def wsL_end : List Cond := .codeWith yL_end cL_end 5 (some .int) [(0, 10, 13, 19), (0, 10, 17, 13)] :: ((wsL_end_r1 ++ (wsL_end_r2 ++ wsL_end_r3)) ++ wsX40 ++ wsX30 ++ wsX10 ++ wsX20 ++ (vx_atS RX4 237 "java/lang/IndexOutOfBoundsException" ["java/lang/RuntimeException", "java/lang/Exception"]).filter goodWord ++ (vx_atS RX4 53 "java/lang/IllegalStateException" ["java/lang/RuntimeException", "java/lang/Exception"]).filter goodWord)
def wsL_jump_r1 : List Cond := [Cond.classLink RL 25 "java/lang/IllegalArgumentException", Cond.classLink RL 13 "java/lang/IllegalStateException", Cond.methodLink RL 21 yX4_jump, Cond.instanceMethod yX4_jump, Cond.selects RX4 yX4_jump yX4_jump, Cond.initialized RX4, Cond.code yX4_jump cX4_jump 3 (some .int), Cond.classLink RX4 83 "java/lang/IllegalArgumentException", Cond.initialized "java/lang/IllegalArgumentException", Cond.classLink RX4 49 "java/lang/IllegalStateException", Cond.initialized "java/lang/IllegalStateException", Cond.fieldLink RX4 12 "RowPages" "transactions" "LRowPages$Transactions;", Cond.methodLink RX4 56 yX4_oldest, Cond.instanceMethod yX4_oldest, Cond.selects RX4 yX4_oldest yX4_oldest, Cond.code yX4_oldest cX4_oldest 3 (some .int), Cond.fieldLink RX4 19 "RowPages" "slots" "LRowPages$Slots;", Cond.fieldLink RX4 203 "RowPages$Slots" "frozen" "[Z", Cond.fieldLink RX4 216 "RowPages$Slots" "birthStamps" "[I", Cond.methodLink RX4 222 Lib.Math.max.name, Cond.static Lib.Math.max.name, Cond.initialized "java/lang/Math", Cond.code Lib.Math.max.name Lib.Math.max.code 2 (some .int), Cond.fieldLink RX4 227 "RowPages$Slots" "deathStamps" "[I"]
def wsL_jump_r2 : List Cond := [Cond.methodLink RX4 213 yX3_oldestActiveAge, Cond.instanceMethod yX3_oldestActiveAge, Cond.selects RX3 yX3_oldestActiveAge yX3_oldestActiveAge, Cond.initialized RX3, Cond.code yX3_oldestActiveAge cX3_oldestActiveAge 3 (some .int), Cond.fieldLink RX3 19 "RowPages$Transactions" "count" "I", Cond.fieldLink RX3 9 "RowPages$Transactions" "stamps" "[I", Cond.methodLink RX3 63 Lib.Math.max.name, Cond.methodLink RX3 57 yX3_isActive, Cond.instanceMethod yX3_isActive, Cond.selects RX3 yX3_isActive yX3_isActive, Cond.code yX3_isActive cX3_isActive 2 (some .boolean), Cond.fieldLink RX3 23 "RowPages$Transactions" "active" "J", Cond.methodLink RX3 27 yX3_has, Cond.static yX3_has, Cond.code yX3_has cX3_has 3 (some .boolean), Cond.methodLink RX3 60 yX3_ageOf, Cond.instanceMethod yX3_ageOf, Cond.selects RX3 yX3_ageOf yX3_ageOf, Cond.code yX3_ageOf cX3_ageOf 2 (some .int), Cond.fieldLink RX3 38 "RowPages$Transactions" "nextStamp" "I", Cond.static yX4_distance, Cond.code yX4_distance cX4_distance 2 (some .int), Cond.methodLink RX4 260 yJ9_floorMod_7cf53]
def wsL_jump_r3 : List Cond := [Cond.static yJ9_floorMod_7cf53, Cond.initialized RJ9, Cond.code yJ9_floorMod_7cf53 cJ9_floorMod_7cf53 3 (some .int), Cond.methodLink RX4 193 yX1_isUsed, Cond.instanceMethod yX1_isUsed, Cond.selects RX1 yX1_isUsed yX1_isUsed, Cond.initialized RX1, Cond.code yX1_isUsed cX1_isUsed 2 (some .boolean), Cond.fieldLink RX1 9 "RowPages$Slots" "keys" "[I", Cond.methodLink RX4 219 yX3_ageOf, Cond.methodLink RX4 206 yX1_hasDeath, Cond.instanceMethod yX1_hasDeath, Cond.selects RX1 yX1_hasDeath yX1_hasDeath, Cond.code yX1_hasDeath cX1_hasDeath 2 (some .boolean), Cond.fieldLink RX1 28 "RowPages$Slots" "deaths" "[I", Cond.methodLink RX4 90 yX3_skip, Cond.instanceMethod yX3_skip, Cond.selects RX3 yX3_skip yX3_skip, Cond.code yX3_skip cX3_skip 2 (some .int)]
def wsL_jump : List Cond := .codeWith yL_jump cL_jump 4 (some .int) [(0, 9, 12, 25), (0, 9, 15, 13)] :: ((wsL_jump_r1 ++ (wsL_jump_r2 ++ wsL_jump_r3)) ++ wsX40 ++ wsX10 ++ wsX30 ++ (vx_atS RX4 87 "java/lang/IllegalArgumentException" ["java/lang/RuntimeException", "java/lang/Exception"]).filter goodWord ++ (vx_atS RX4 53 "java/lang/IllegalStateException" ["java/lang/RuntimeException", "java/lang/Exception"]).filter goodWord)
def wsL_stamp : List Cond := .codeWith yL_stamp cL_stamp 4 (some .int) [(0, 9, 12, 19)] :: ([.classLink RL 19 "java/lang/IndexOutOfBoundsException", .methodLink RL 27 yX4_stamp, .instanceMethod yX4_stamp, .selects RX4 yX4_stamp yX4_stamp, .initialized RX4, .code yX4_stamp cX4_stamp 2 (some .int), .fieldLink RX4 12 "RowPages" "transactions" "LRowPages$Transactions;", .fieldLink RX4 94 "RowPages$Transactions" "stamps" "[I", .methodLink RX4 65 yX4_checkTransaction, .instanceMethod yX4_checkTransaction, .selects RX4 yX4_checkTransaction yX4_checkTransaction, .code yX4_checkTransaction cX4_checkTransaction 2 none, .classLink RX4 233 "java/lang/IndexOutOfBoundsException", .initialized "java/lang/IndexOutOfBoundsException", .methodLink RX4 230 yX3_wereBegun, .instanceMethod yX3_wereBegun, .selects RX3 yX3_wereBegun yX3_wereBegun, .initialized RX3, .code yX3_wereBegun cX3_wereBegun 2 (some .boolean), .fieldLink RX3 19 "RowPages$Transactions" "count" "I"] ++ wsX40 ++ wsX30 ++ (vx_atS RX4 237 "java/lang/IndexOutOfBoundsException" ["java/lang/RuntimeException", "java/lang/Exception"]).filter goodWord)
def wsL_isBefore : List Cond := .codeWith yL_isBefore cL_isBefore 5 (some .int) [(0, 17, 20, 25)] :: ([.classLink RL 25 "java/lang/IllegalArgumentException", .methodLink RL 30 yX4_isBefore, .instanceMethod yX4_isBefore, .selects RX4 yX4_isBefore yX4_isBefore, .initialized RX4, .code yX4_isBefore cX4_isBefore 3 (some .boolean), .methodLink RX4 98 yX4_checkStamp, .static yX4_checkStamp, .code yX4_checkStamp cX4_checkStamp 1 none, .classLink RX4 83 "java/lang/IllegalArgumentException", .initialized "java/lang/IllegalArgumentException", .methodLink RX4 101 yX4_distance, .static yX4_distance, .code yX4_distance cX4_distance 2 (some .int), .methodLink RX4 260 yJ9_floorMod_7cf53, .static yJ9_floorMod_7cf53, .initialized RJ9, .code yJ9_floorMod_7cf53 cJ9_floorMod_7cf53 3 (some .int)] ++ (vx_atS RX4 87 "java/lang/IllegalArgumentException" ["java/lang/RuntimeException", "java/lang/Exception"]).filter goodWord)
def wsL_read_r1 : List Cond := [Cond.classLink RL 19 "java/lang/IndexOutOfBoundsException", Cond.classLink RL 25 "java/lang/IllegalArgumentException", Cond.classLink RL 13 "java/lang/IllegalStateException", Cond.methodLink RL 34 yX4_read, Cond.instanceMethod yX4_read, Cond.selects RX4 yX4_read yX4_read, Cond.initialized RX4, Cond.code yX4_read cX4_read 4 (some .int), Cond.fieldLink RX4 19 "RowPages" "slots" "LRowPages$Slots;", Cond.fieldLink RX4 115 "RowPages$Slots" "values" "[I", Cond.methodLink RX4 65 yX4_checkTransaction, Cond.instanceMethod yX4_checkTransaction, Cond.selects RX4 yX4_checkTransaction yX4_checkTransaction, Cond.code yX4_checkTransaction cX4_checkTransaction 2 none, Cond.classLink RX4 233 "java/lang/IndexOutOfBoundsException", Cond.initialized "java/lang/IndexOutOfBoundsException", Cond.fieldLink RX4 12 "RowPages" "transactions" "LRowPages$Transactions;", Cond.methodLink RX4 230 yX3_wereBegun, Cond.instanceMethod yX3_wereBegun, Cond.selects RX3 yX3_wereBegun yX3_wereBegun, Cond.initialized RX3, Cond.code yX3_wereBegun cX3_wereBegun 2 (some .boolean), Cond.fieldLink RX3 19 "RowPages$Transactions" "count" "I", Cond.methodLink RX4 105 yX4_checkKey]
def wsL_read_r2 : List Cond := [Cond.static yX4_checkKey, Cond.code yX4_checkKey cX4_checkKey 1 none, Cond.classLink RX4 83 "java/lang/IllegalArgumentException", Cond.initialized "java/lang/IllegalArgumentException", Cond.methodLink RX4 69 yX4_checkActive, Cond.instanceMethod yX4_checkActive, Cond.selects RX4 yX4_checkActive yX4_checkActive, Cond.code yX4_checkActive cX4_checkActive 2 none, Cond.classLink RX4 49 "java/lang/IllegalStateException", Cond.initialized "java/lang/IllegalStateException", Cond.methodLink RX4 238 yX3_isActive, Cond.instanceMethod yX3_isActive, Cond.selects RX3 yX3_isActive yX3_isActive, Cond.code yX3_isActive cX3_isActive 2 (some .boolean), Cond.fieldLink RX3 23 "RowPages$Transactions" "active" "J", Cond.methodLink RX3 27 yX3_has, Cond.static yX3_has, Cond.code yX3_has cX3_has 3 (some .boolean), Cond.methodLink RX4 108 yX4_seenPlace, Cond.instanceMethod yX4_seenPlace, Cond.selects RX4 yX4_seenPlace yX4_seenPlace, Cond.code yX4_seenPlace cX4_seenPlace 5 (some .int), Cond.fieldLink RX4 26 "RowPages" "index" "LRowPages$Index;", Cond.fieldLink RX4 209 "RowPages$Index" "counts" "[I"]
def wsL_read_r3 : List Cond := [Cond.fieldLink RX4 263 "RowPages$Index" "places" "[[I", Cond.methodLink RX4 267 yX4_seenInChain, Cond.instanceMethod yX4_seenInChain, Cond.selects RX4 yX4_seenInChain yX4_seenInChain, Cond.code yX4_seenInChain cX4_seenInChain 5 (some .int), Cond.fieldLink RX4 157 "RowPages$Slots" "nexts" "[I", Cond.methodLink RX4 111 yX4_isPlace, Cond.static yX4_isPlace, Cond.code yX4_isPlace cX4_isPlace 1 (some .boolean), Cond.methodLink RX4 270 yX4_sees, Cond.instanceMethod yX4_sees, Cond.selects RX4 yX4_sees yX4_sees, Cond.code yX4_sees cX4_sees 4 (some .boolean), Cond.fieldLink RX4 203 "RowPages$Slots" "frozen" "[Z", Cond.fieldLink RX4 243 "RowPages$Slots" "births" "[I", Cond.fieldLink RX4 247 "RowPages$Slots" "deaths" "[I", Cond.methodLink RX4 127 yX3_knows, Cond.instanceMethod yX3_knows, Cond.selects RX3 yX3_knows yX3_knows, Cond.code yX3_knows cX3_knows 3 (some .boolean), Cond.fieldLink RX3 15 "RowPages$Transactions" "snapshots" "[J"]
def wsL_read : List Cond := .codeWith yL_read cL_read 5 (some .int) [(0, 10, 13, 19), (0, 10, 17, 25), (0, 10, 21, 13)] :: ((wsL_read_r1 ++ (wsL_read_r2 ++ wsL_read_r3)) ++ wsX40 ++ wsX10 ++ wsX30 ++ wsX00 ++ (vx_atS RX4 237 "java/lang/IndexOutOfBoundsException" ["java/lang/RuntimeException", "java/lang/Exception"]).filter goodWord ++ (vx_atS RX4 87 "java/lang/IllegalArgumentException" ["java/lang/RuntimeException", "java/lang/Exception"]).filter goodWord ++ (vx_atS RX4 53 "java/lang/IllegalStateException" ["java/lang/RuntimeException", "java/lang/Exception"]).filter goodWord)
def wsL_readPlain_r1 : List Cond := [Cond.classLink RL 19 "java/lang/IndexOutOfBoundsException", Cond.classLink RL 25 "java/lang/IllegalArgumentException", Cond.classLink RL 13 "java/lang/IllegalStateException", Cond.methodLink RL 38 yX4_readPlain, Cond.instanceMethod yX4_readPlain, Cond.selects RX4 yX4_readPlain yX4_readPlain, Cond.initialized RX4, Cond.code yX4_readPlain cX4_readPlain 4 (some .int), Cond.fieldLink RX4 33 "RowPages" "table" "LRowPages$Table;", Cond.fieldLink RX4 118 "RowPages$Table" "count" "I", Cond.fieldLink RX4 121 "RowPages$Table" "keys" "[I", Cond.fieldLink RX4 12 "RowPages" "transactions" "LRowPages$Transactions;", Cond.fieldLink RX4 124 "RowPages$Table" "births" "[I", Cond.fieldLink RX4 131 "RowPages$Table" "deaths" "[I", Cond.fieldLink RX4 134 "RowPages$Table" "values" "[I", Cond.methodLink RX4 65 yX4_checkTransaction, Cond.instanceMethod yX4_checkTransaction, Cond.selects RX4 yX4_checkTransaction yX4_checkTransaction, Cond.code yX4_checkTransaction cX4_checkTransaction 2 none, Cond.classLink RX4 233 "java/lang/IndexOutOfBoundsException", Cond.initialized "java/lang/IndexOutOfBoundsException", Cond.methodLink RX4 230 yX3_wereBegun, Cond.instanceMethod yX3_wereBegun, Cond.selects RX3 yX3_wereBegun yX3_wereBegun]
def wsL_readPlain_r2 : List Cond := [Cond.initialized RX3, Cond.code yX3_wereBegun cX3_wereBegun 2 (some .boolean), Cond.fieldLink RX3 19 "RowPages$Transactions" "count" "I", Cond.methodLink RX4 105 yX4_checkKey, Cond.static yX4_checkKey, Cond.code yX4_checkKey cX4_checkKey 1 none, Cond.classLink RX4 83 "java/lang/IllegalArgumentException", Cond.initialized "java/lang/IllegalArgumentException", Cond.methodLink RX4 69 yX4_checkActive, Cond.instanceMethod yX4_checkActive, Cond.selects RX4 yX4_checkActive yX4_checkActive, Cond.code yX4_checkActive cX4_checkActive 2 none, Cond.classLink RX4 49 "java/lang/IllegalStateException", Cond.initialized "java/lang/IllegalStateException", Cond.methodLink RX4 238 yX3_isActive, Cond.instanceMethod yX3_isActive, Cond.selects RX3 yX3_isActive yX3_isActive, Cond.code yX3_isActive cX3_isActive 2 (some .boolean), Cond.fieldLink RX3 23 "RowPages$Transactions" "active" "J", Cond.methodLink RX3 27 yX3_has, Cond.static yX3_has, Cond.code yX3_has cX3_has 3 (some .boolean), Cond.methodLink RX4 127 yX3_knows, Cond.instanceMethod yX3_knows]
def wsL_readPlain_r3 : List Cond := [Cond.selects RX3 yX3_knows yX3_knows, Cond.code yX3_knows cX3_knows 3 (some .boolean), Cond.fieldLink RX3 15 "RowPages$Transactions" "snapshots" "[J"]
def wsL_readPlain : List Cond := .codeWith yL_readPlain cL_readPlain 5 (some .int) [(0, 10, 13, 19), (0, 10, 17, 25), (0, 10, 21, 13)] :: ((wsL_readPlain_r1 ++ (wsL_readPlain_r2 ++ wsL_readPlain_r3)) ++ wsX40 ++ wsX20 ++ wsX30 ++ (vx_atS RX4 237 "java/lang/IndexOutOfBoundsException" ["java/lang/RuntimeException", "java/lang/Exception"]).filter goodWord ++ (vx_atS RX4 87 "java/lang/IllegalArgumentException" ["java/lang/RuntimeException", "java/lang/Exception"]).filter goodWord ++ (vx_atS RX4 53 "java/lang/IllegalStateException" ["java/lang/RuntimeException", "java/lang/Exception"]).filter goodWord)
def wsL_write_r1 : List Cond := [Cond.classLink RL 19 "java/lang/IndexOutOfBoundsException", Cond.classLink RL 25 "java/lang/IllegalArgumentException", Cond.classLink RL 13 "java/lang/IllegalStateException", Cond.methodLink RL 41 yX4_write, Cond.instanceMethod yX4_write, Cond.selects RX4 yX4_write yX4_write, Cond.initialized RX4, Cond.code yX4_write cX4_write 7 (some .int), Cond.classLink RX4 49 "java/lang/IllegalStateException", Cond.initialized "java/lang/IllegalStateException", Cond.fieldLink RX4 19 "RowPages" "slots" "LRowPages$Slots;", Cond.fieldLink RX4 157 "RowPages$Slots" "nexts" "[I", Cond.fieldLink RX4 26 "RowPages" "index" "LRowPages$Index;", Cond.constant RX4 166 (100000), Cond.methodLink RX4 65 yX4_checkTransaction, Cond.instanceMethod yX4_checkTransaction, Cond.selects RX4 yX4_checkTransaction yX4_checkTransaction, Cond.code yX4_checkTransaction cX4_checkTransaction 2 none, Cond.classLink RX4 233 "java/lang/IndexOutOfBoundsException", Cond.initialized "java/lang/IndexOutOfBoundsException", Cond.fieldLink RX4 12 "RowPages" "transactions" "LRowPages$Transactions;", Cond.methodLink RX4 230 yX3_wereBegun, Cond.instanceMethod yX3_wereBegun, Cond.selects RX3 yX3_wereBegun yX3_wereBegun]
def wsL_write_r2 : List Cond := [Cond.initialized RX3, Cond.code yX3_wereBegun cX3_wereBegun 2 (some .boolean), Cond.fieldLink RX3 19 "RowPages$Transactions" "count" "I", Cond.methodLink RX4 105 yX4_checkKey, Cond.static yX4_checkKey, Cond.code yX4_checkKey cX4_checkKey 1 none, Cond.classLink RX4 83 "java/lang/IllegalArgumentException", Cond.initialized "java/lang/IllegalArgumentException", Cond.methodLink RX4 135 yX4_checkValue, Cond.static yX4_checkValue, Cond.code yX4_checkValue cX4_checkValue 1 none, Cond.methodLink RX4 69 yX4_checkActive, Cond.instanceMethod yX4_checkActive, Cond.selects RX4 yX4_checkActive yX4_checkActive, Cond.code yX4_checkActive cX4_checkActive 2 none, Cond.methodLink RX4 238 yX3_isActive, Cond.instanceMethod yX3_isActive, Cond.selects RX3 yX3_isActive yX3_isActive, Cond.code yX3_isActive cX3_isActive 2 (some .boolean), Cond.fieldLink RX3 23 "RowPages$Transactions" "active" "J", Cond.methodLink RX3 27 yX3_has, Cond.static yX3_has, Cond.code yX3_has cX3_has 3 (some .boolean), Cond.methodLink RX4 138 yX4_checkNotRefused]
def wsL_write_r3 : List Cond := [Cond.instanceMethod yX4_checkNotRefused, Cond.selects RX4 yX4_checkNotRefused yX4_checkNotRefused, Cond.code yX4_checkNotRefused cX4_checkNotRefused 4 none, Cond.fieldLink RX4 202 "RowPages$Slots" "keys" "[I", Cond.fieldLink RX4 243 "RowPages$Slots" "births" "[I", Cond.fieldLink RX4 247 "RowPages$Slots" "deaths" "[I", Cond.methodLink RX4 244 yX3_isRival, Cond.instanceMethod yX3_isRival, Cond.selects RX3 yX3_isRival yX3_isRival, Cond.code yX3_isRival cX3_isRival 3 (some .boolean), Cond.fieldLink RX3 35 "RowPages$Transactions" "committed" "J", Cond.methodLink RX3 68 yX3_knows, Cond.instanceMethod yX3_knows, Cond.selects RX3 yX3_knows yX3_knows, Cond.code yX3_knows cX3_knows 3 (some .boolean), Cond.fieldLink RX3 15 "RowPages$Transactions" "snapshots" "[J", Cond.methodLink RX4 108 yX4_seenPlace, Cond.instanceMethod yX4_seenPlace, Cond.selects RX4 yX4_seenPlace yX4_seenPlace, Cond.code yX4_seenPlace cX4_seenPlace 5 (some .int), Cond.fieldLink RX4 209 "RowPages$Index" "counts" "[I", Cond.fieldLink RX4 263 "RowPages$Index" "places" "[[I", Cond.methodLink RX4 267 yX4_seenInChain, Cond.instanceMethod yX4_seenInChain]
def wsL_write_r4 : List Cond := [Cond.selects RX4 yX4_seenInChain yX4_seenInChain, Cond.code yX4_seenInChain cX4_seenInChain 5 (some .int), Cond.methodLink RX4 111 yX4_isPlace, Cond.static yX4_isPlace, Cond.code yX4_isPlace cX4_isPlace 1 (some .boolean), Cond.methodLink RX4 270 yX4_sees, Cond.instanceMethod yX4_sees, Cond.selects RX4 yX4_sees yX4_sees, Cond.code yX4_sees cX4_sees 4 (some .boolean), Cond.fieldLink RX4 203 "RowPages$Slots" "frozen" "[Z", Cond.methodLink RX4 127 yX3_knows, Cond.methodLink RX4 142 yX4_placeForNew, Cond.instanceMethod yX4_placeForNew, Cond.selects RX4 yX4_placeForNew yX4_placeForNew, Cond.code yX4_placeForNew cX4_placeForNew 3 (some .int), Cond.methodLink RX4 154 yX4_pageOf, Cond.static yX4_pageOf, Cond.code yX4_pageOf cX4_pageOf 1 (some .int), Cond.methodLink RX4 174 yX4_firstOf, Cond.static yX4_firstOf, Cond.code yX4_firstOf cX4_firstOf 1 (some .int), Cond.methodLink RX4 273 yX1_lowestFree, Cond.instanceMethod yX1_lowestFree, Cond.selects RX1 yX1_lowestFree yX1_lowestFree]
def wsL_write_r5 : List Cond := [Cond.initialized RX1, Cond.code yX1_lowestFree cX1_lowestFree 4 (some .int), Cond.methodLink RX1 44 yX1_isUsed, Cond.instanceMethod yX1_isUsed, Cond.selects RX1 yX1_isUsed yX1_isUsed, Cond.code yX1_isUsed cX1_isUsed 2 (some .boolean), Cond.fieldLink RX1 9 "RowPages$Slots" "keys" "[I", Cond.methodLink RX4 147 yX4_putDeath, Cond.instanceMethod yX4_putDeath, Cond.selects RX4 yX4_putDeath yX4_putDeath, Cond.code yX4_putDeath cX4_putDeath 3 none, Cond.fieldLink RX4 227 "RowPages$Slots" "deathStamps" "[I", Cond.fieldLink RX4 94 "RowPages$Transactions" "stamps" "[I", Cond.fieldLink RX4 33 "RowPages" "table" "LRowPages$Table;", Cond.fieldLink RX4 276 "RowPages$Slots" "rows" "[I", Cond.fieldLink RX4 37 "RowPages" "mapped" "[Z", Cond.methodLink RX4 279 yX2_putDeath, Cond.instanceMethod yX2_putDeath, Cond.selects RX2 yX2_putDeath yX2_putDeath, Cond.initialized RX2, Cond.code yX2_putDeath cX2_putDeath 3 none, Cond.fieldLink RX2 24 "RowPages$Table" "count" "I", Cond.fieldLink RX2 21 "RowPages$Table" "deaths" "[I", Cond.methodLink RX4 150 yX4_putVersion]
def wsL_write_r6 : List Cond := [Cond.instanceMethod yX4_putVersion, Cond.selects RX4 yX4_putVersion yX4_putVersion, Cond.code yX4_putVersion cX4_putVersion 5 none, Cond.fieldLink RX4 115 "RowPages$Slots" "values" "[I", Cond.fieldLink RX4 216 "RowPages$Slots" "birthStamps" "[I", Cond.methodLink RX4 280 yX2_add, Cond.instanceMethod yX2_add, Cond.selects RX2 yX2_add yX2_add, Cond.code yX2_add cX2_add 5 (some .int), Cond.fieldLink RX2 9 "RowPages$Table" "keys" "[I", Cond.fieldLink RX2 15 "RowPages$Table" "values" "[I", Cond.fieldLink RX2 18 "RowPages$Table" "births" "[I", Cond.methodLink RX4 160 yX0_add, Cond.instanceMethod yX0_add, Cond.selects RX0 yX0_add yX0_add, Cond.initialized RX0, Cond.code yX0_add cX0_add 3 none, Cond.fieldLink RX0 16 "RowPages$Index" "counts" "[I", Cond.fieldLink RX0 11 "RowPages$Index" "places" "[[I", Cond.methodLink RX4 163 yX4_slotOf, Cond.static yX4_slotOf, Cond.code yX4_slotOf cX4_slotOf 1 (some .int)]
def wsL_write : List Cond := .codeWith yL_write cL_write 6 (some .int) [(0, 12, 15, 19), (0, 12, 19, 25), (0, 12, 23, 13)] :: ((wsL_write_r1 ++ (wsL_write_r2 ++ (wsL_write_r3 ++ (wsL_write_r4 ++ (wsL_write_r5 ++ wsL_write_r6))))) ++ wsX40 ++ wsX10 ++ wsX30 ++ wsX00 ++ wsX20 ++ (vx_atS RX4 53 "java/lang/IllegalStateException" ["java/lang/RuntimeException", "java/lang/Exception"]).filter goodWord ++ (vx_atS RX4 237 "java/lang/IndexOutOfBoundsException" ["java/lang/RuntimeException", "java/lang/Exception"]).filter goodWord ++ (vx_atS RX4 87 "java/lang/IllegalArgumentException" ["java/lang/RuntimeException", "java/lang/Exception"]).filter goodWord)
def wsL_delete_r1 : List Cond := [Cond.classLink RL 19 "java/lang/IndexOutOfBoundsException", Cond.classLink RL 25 "java/lang/IllegalArgumentException", Cond.classLink RL 13 "java/lang/IllegalStateException", Cond.methodLink RL 45 yX4_delete, Cond.instanceMethod yX4_delete, Cond.selects RX4 yX4_delete yX4_delete, Cond.initialized RX4, Cond.code yX4_delete cX4_delete 4 (some .boolean), Cond.methodLink RX4 65 yX4_checkTransaction, Cond.instanceMethod yX4_checkTransaction, Cond.selects RX4 yX4_checkTransaction yX4_checkTransaction, Cond.code yX4_checkTransaction cX4_checkTransaction 2 none, Cond.classLink RX4 233 "java/lang/IndexOutOfBoundsException", Cond.initialized "java/lang/IndexOutOfBoundsException", Cond.fieldLink RX4 12 "RowPages" "transactions" "LRowPages$Transactions;", Cond.methodLink RX4 230 yX3_wereBegun, Cond.instanceMethod yX3_wereBegun, Cond.selects RX3 yX3_wereBegun yX3_wereBegun, Cond.initialized RX3, Cond.code yX3_wereBegun cX3_wereBegun 2 (some .boolean), Cond.fieldLink RX3 19 "RowPages$Transactions" "count" "I", Cond.methodLink RX4 105 yX4_checkKey, Cond.static yX4_checkKey, Cond.code yX4_checkKey cX4_checkKey 1 none]
def wsL_delete_r2 : List Cond := [Cond.classLink RX4 83 "java/lang/IllegalArgumentException", Cond.initialized "java/lang/IllegalArgumentException", Cond.methodLink RX4 69 yX4_checkActive, Cond.instanceMethod yX4_checkActive, Cond.selects RX4 yX4_checkActive yX4_checkActive, Cond.code yX4_checkActive cX4_checkActive 2 none, Cond.classLink RX4 49 "java/lang/IllegalStateException", Cond.initialized "java/lang/IllegalStateException", Cond.methodLink RX4 238 yX3_isActive, Cond.instanceMethod yX3_isActive, Cond.selects RX3 yX3_isActive yX3_isActive, Cond.code yX3_isActive cX3_isActive 2 (some .boolean), Cond.fieldLink RX3 23 "RowPages$Transactions" "active" "J", Cond.methodLink RX3 27 yX3_has, Cond.static yX3_has, Cond.code yX3_has cX3_has 3 (some .boolean), Cond.methodLink RX4 108 yX4_seenPlace, Cond.instanceMethod yX4_seenPlace, Cond.selects RX4 yX4_seenPlace yX4_seenPlace, Cond.code yX4_seenPlace cX4_seenPlace 5 (some .int), Cond.fieldLink RX4 26 "RowPages" "index" "LRowPages$Index;", Cond.fieldLink RX4 209 "RowPages$Index" "counts" "[I", Cond.fieldLink RX4 263 "RowPages$Index" "places" "[[I", Cond.methodLink RX4 267 yX4_seenInChain]
def wsL_delete_r3 : List Cond := [Cond.instanceMethod yX4_seenInChain, Cond.selects RX4 yX4_seenInChain yX4_seenInChain, Cond.code yX4_seenInChain cX4_seenInChain 5 (some .int), Cond.fieldLink RX4 19 "RowPages" "slots" "LRowPages$Slots;", Cond.fieldLink RX4 157 "RowPages$Slots" "nexts" "[I", Cond.methodLink RX4 111 yX4_isPlace, Cond.static yX4_isPlace, Cond.code yX4_isPlace cX4_isPlace 1 (some .boolean), Cond.methodLink RX4 270 yX4_sees, Cond.instanceMethod yX4_sees, Cond.selects RX4 yX4_sees yX4_sees, Cond.code yX4_sees cX4_sees 4 (some .boolean), Cond.fieldLink RX4 203 "RowPages$Slots" "frozen" "[Z", Cond.fieldLink RX4 243 "RowPages$Slots" "births" "[I", Cond.fieldLink RX4 247 "RowPages$Slots" "deaths" "[I", Cond.methodLink RX4 127 yX3_knows, Cond.instanceMethod yX3_knows, Cond.selects RX3 yX3_knows yX3_knows, Cond.code yX3_knows cX3_knows 3 (some .boolean), Cond.fieldLink RX3 15 "RowPages$Transactions" "snapshots" "[J", Cond.methodLink RX4 138 yX4_checkNotRefused, Cond.instanceMethod yX4_checkNotRefused, Cond.selects RX4 yX4_checkNotRefused yX4_checkNotRefused, Cond.code yX4_checkNotRefused cX4_checkNotRefused 4 none]
def wsL_delete_r4 : List Cond := [Cond.fieldLink RX4 202 "RowPages$Slots" "keys" "[I", Cond.methodLink RX4 244 yX3_isRival, Cond.instanceMethod yX3_isRival, Cond.selects RX3 yX3_isRival yX3_isRival, Cond.code yX3_isRival cX3_isRival 3 (some .boolean), Cond.fieldLink RX3 35 "RowPages$Transactions" "committed" "J", Cond.methodLink RX3 68 yX3_knows, Cond.methodLink RX4 147 yX4_putDeath, Cond.instanceMethod yX4_putDeath, Cond.selects RX4 yX4_putDeath yX4_putDeath, Cond.code yX4_putDeath cX4_putDeath 3 none, Cond.fieldLink RX4 227 "RowPages$Slots" "deathStamps" "[I", Cond.fieldLink RX4 94 "RowPages$Transactions" "stamps" "[I", Cond.fieldLink RX4 33 "RowPages" "table" "LRowPages$Table;", Cond.fieldLink RX4 276 "RowPages$Slots" "rows" "[I", Cond.fieldLink RX4 37 "RowPages" "mapped" "[Z", Cond.methodLink RX4 279 yX2_putDeath, Cond.instanceMethod yX2_putDeath, Cond.selects RX2 yX2_putDeath yX2_putDeath, Cond.initialized RX2, Cond.code yX2_putDeath cX2_putDeath 3 none, Cond.fieldLink RX2 24 "RowPages$Table" "count" "I", Cond.fieldLink RX2 21 "RowPages$Table" "deaths" "[I", Cond.methodLink RX4 154 yX4_pageOf]
def wsL_delete_r5 : List Cond := [Cond.static yX4_pageOf, Cond.code yX4_pageOf cX4_pageOf 1 (some .int)]
def wsL_delete : List Cond := .codeWith yL_delete cL_delete 5 (some .int) [(0, 17, 20, 19), (0, 17, 24, 25), (0, 17, 28, 13)] :: ((wsL_delete_r1 ++ (wsL_delete_r2 ++ (wsL_delete_r3 ++ (wsL_delete_r4 ++ wsL_delete_r5)))) ++ wsX40 ++ wsX30 ++ wsX00 ++ wsX10 ++ wsX20 ++ (vx_atS RX4 237 "java/lang/IndexOutOfBoundsException" ["java/lang/RuntimeException", "java/lang/Exception"]).filter goodWord ++ (vx_atS RX4 87 "java/lang/IllegalArgumentException" ["java/lang/RuntimeException", "java/lang/Exception"]).filter goodWord ++ (vx_atS RX4 53 "java/lang/IllegalStateException" ["java/lang/RuntimeException", "java/lang/Exception"]).filter goodWord)
def wsL_clean_r1 : List Cond := [Cond.classLink RL 25 "java/lang/IllegalArgumentException", Cond.methodLink RL 48 yX4_clean, Cond.instanceMethod yX4_clean, Cond.selects RX4 yX4_clean yX4_clean, Cond.initialized RX4, Cond.code yX4_clean cX4_clean 6 (some .int), Cond.fieldLink RX4 12 "RowPages" "transactions" "LRowPages$Transactions;", Cond.fieldLink RX4 37 "RowPages" "mapped" "[Z", Cond.methodLink RX4 167 yX4_checkPage, Cond.static yX4_checkPage, Cond.code yX4_checkPage cX4_checkPage 1 none, Cond.classLink RX4 83 "java/lang/IllegalArgumentException", Cond.initialized "java/lang/IllegalArgumentException", Cond.methodLink RX4 170 yX3_settled, Cond.instanceMethod yX3_settled, Cond.selects RX3 yX3_settled yX3_settled, Cond.initialized RX3, Cond.code yX3_settled cX3_settled 4 (some .long), Cond.fieldLink RX3 35 "RowPages$Transactions" "committed" "J", Cond.fieldLink RX3 19 "RowPages$Transactions" "count" "I", Cond.fieldLink RX3 15 "RowPages$Transactions" "snapshots" "[J", Cond.methodLink RX3 57 yX3_isActive, Cond.instanceMethod yX3_isActive, Cond.selects RX3 yX3_isActive yX3_isActive]
def wsL_clean_r2 : List Cond := [Cond.code yX3_isActive cX3_isActive 2 (some .boolean), Cond.fieldLink RX3 23 "RowPages$Transactions" "active" "J", Cond.methodLink RX3 27 yX3_has, Cond.static yX3_has, Cond.code yX3_has cX3_has 3 (some .boolean), Cond.methodLink RX4 174 yX4_firstOf, Cond.static yX4_firstOf, Cond.code yX4_firstOf cX4_firstOf 1 (some .int), Cond.methodLink RX4 177 yX4_canGo, Cond.instanceMethod yX4_canGo, Cond.selects RX4 yX4_canGo yX4_canGo, Cond.code yX4_canGo cX4_canGo 4 (some .boolean), Cond.fieldLink RX4 19 "RowPages" "slots" "LRowPages$Slots;", Cond.fieldLink RX4 243 "RowPages$Slots" "births" "[I", Cond.fieldLink RX4 247 "RowPages$Slots" "deaths" "[I", Cond.methodLink RX4 193 yX1_isUsed, Cond.instanceMethod yX1_isUsed, Cond.selects RX1 yX1_isUsed yX1_isUsed, Cond.initialized RX1, Cond.code yX1_isUsed cX1_isUsed 2 (some .boolean), Cond.fieldLink RX1 9 "RowPages$Slots" "keys" "[I", Cond.methodLink RX4 283 yX3_isTakenBack, Cond.instanceMethod yX3_isTakenBack, Cond.selects RX3 yX3_isTakenBack yX3_isTakenBack]
def wsL_clean_r3 : List Cond := [Cond.code yX3_isTakenBack cX3_isTakenBack 2 (some .boolean), Cond.methodLink RX3 31 yX3_wereBegun, Cond.instanceMethod yX3_wereBegun, Cond.selects RX3 yX3_wereBegun yX3_wereBegun, Cond.code yX3_wereBegun cX3_wereBegun 2 (some .boolean), Cond.methodLink RX4 286 yX3_has, Cond.methodLink RX4 181 yX4_takeOut, Cond.instanceMethod yX4_takeOut, Cond.selects RX4 yX4_takeOut yX4_takeOut, Cond.code yX4_takeOut cX4_takeOut 3 none, Cond.fieldLink RX4 157 "RowPages$Slots" "nexts" "[I", Cond.fieldLink RX4 26 "RowPages" "index" "LRowPages$Index;", Cond.fieldLink RX4 202 "RowPages$Slots" "keys" "[I", Cond.methodLink RX4 290 yX1_bypass, Cond.instanceMethod yX1_bypass, Cond.selects RX1 yX1_bypass yX1_bypass, Cond.code yX1_bypass cX1_bypass 4 none, Cond.fieldLink RX1 34 "RowPages$Slots" "nexts" "[I", Cond.methodLink RX4 293 yX0_move, Cond.instanceMethod yX0_move, Cond.selects RX0 yX0_move yX0_move, Cond.initialized RX0, Cond.code yX0_move cX0_move 7 none, Cond.fieldLink RX0 16 "RowPages$Index" "counts" "[I"]
def wsL_clean_r4 : List Cond := [Cond.fieldLink RX0 11 "RowPages$Index" "places" "[[I", Cond.methodLink RX4 297 yX1_empty, Cond.instanceMethod yX1_empty, Cond.selects RX1 yX1_empty yX1_empty, Cond.code yX1_empty cX1_empty 2 none, Cond.fieldLink RX1 18 "RowPages$Slots" "births" "[I", Cond.fieldLink RX1 24 "RowPages$Slots" "frozen" "[Z", Cond.fieldLink RX1 28 "RowPages$Slots" "deaths" "[I", Cond.fieldLink RX1 37 "RowPages$Slots" "rows" "[I", Cond.methodLink RX4 184 yX4_freezeOldOnes, Cond.instanceMethod yX4_freezeOldOnes, Cond.selects RX4 yX4_freezeOldOnes yX4_freezeOldOnes, Cond.code yX4_freezeOldOnes cX4_freezeOldOnes 5 none, Cond.fieldLink RX4 216 "RowPages$Slots" "birthStamps" "[I", Cond.fieldLink RX4 41 "RowPages" "freezingAge" "I", Cond.fieldLink RX4 203 "RowPages$Slots" "frozen" "[Z", Cond.methodLink RX4 219 yX3_ageOf, Cond.instanceMethod yX3_ageOf, Cond.selects RX3 yX3_ageOf yX3_ageOf, Cond.code yX3_ageOf cX3_ageOf 2 (some .int), Cond.fieldLink RX3 38 "RowPages$Transactions" "nextStamp" "I", Cond.static yX4_distance, Cond.code yX4_distance cX4_distance 2 (some .int), Cond.methodLink RX4 260 yJ9_floorMod_7cf53]
def wsL_clean_r5 : List Cond := [Cond.static yJ9_floorMod_7cf53, Cond.initialized RJ9, Cond.code yJ9_floorMod_7cf53 cJ9_floorMod_7cf53 3 (some .int), Cond.methodLink RX4 188 yX4_isWhole, Cond.instanceMethod yX4_isWhole, Cond.selects RX4 yX4_isWhole yX4_isWhole, Cond.code yX4_isWhole cX4_isWhole 5 (some .boolean), Cond.methodLink RX4 196 yX4_isSeenByAll, Cond.instanceMethod yX4_isSeenByAll, Cond.selects RX4 yX4_isSeenByAll yX4_isSeenByAll, Cond.code yX4_isSeenByAll cX4_isSeenByAll 4 (some .boolean), Cond.methodLink RX4 206 yX1_hasDeath, Cond.instanceMethod yX1_hasDeath, Cond.selects RX1 yX1_hasDeath yX1_hasDeath, Cond.code yX1_hasDeath cX1_hasDeath 2 (some .boolean)]
def wsL_clean : List Cond := .codeWith yL_clean cL_clean 4 (some .int) [(0, 9, 12, 25)] :: ((wsL_clean_r1 ++ (wsL_clean_r2 ++ (wsL_clean_r3 ++ (wsL_clean_r4 ++ wsL_clean_r5)))) ++ wsX40 ++ wsX30 ++ wsX10 ++ wsX00 ++ (vx_atS RX4 87 "java/lang/IllegalArgumentException" ["java/lang/RuntimeException", "java/lang/Exception"]).filter goodWord)
def wsL_setFreezing : List Cond := .codeWith yL_setFreezing cL_setFreezing 4 (some .int) [(0, 9, 12, 25)] :: ([.classLink RL 25 "java/lang/IllegalArgumentException", .methodLink RL 51 yX4_setFreezing, .instanceMethod yX4_setFreezing, .selects RX4 yX4_setFreezing yX4_setFreezing, .initialized RX4, .code yX4_setFreezing cX4_setFreezing 3 (some .int), .classLink RX4 83 "java/lang/IllegalArgumentException", .initialized "java/lang/IllegalArgumentException", .fieldLink RX4 41 "RowPages" "freezingAge" "I"] ++ wsX40 ++ (vx_atS RX4 87 "java/lang/IllegalArgumentException" ["java/lang/RuntimeException", "java/lang/Exception"]).filter goodWord)
def wsL_isMapped : List Cond := .codeWith yL_isMapped cL_isMapped 4 (some .int) [(0, 16, 19, 25)] :: ([.classLink RL 25 "java/lang/IllegalArgumentException", .methodLink RL 54 yX4_isMapped, .instanceMethod yX4_isMapped, .selects RX4 yX4_isMapped yX4_isMapped, .initialized RX4, .code yX4_isMapped cX4_isMapped 2 (some .boolean), .fieldLink RX4 37 "RowPages" "mapped" "[Z", .methodLink RX4 167 yX4_checkPage, .static yX4_checkPage, .code yX4_checkPage cX4_checkPage 1 none, .classLink RX4 83 "java/lang/IllegalArgumentException", .initialized "java/lang/IllegalArgumentException"] ++ wsX40 ++ (vx_atS RX4 87 "java/lang/IllegalArgumentException" ["java/lang/RuntimeException", "java/lang/Exception"]).filter goodWord)
def wsL_isWhole_r1 : List Cond := [Cond.classLink RL 25 "java/lang/IllegalArgumentException", Cond.methodLink RL 58 yX4_isWhole, Cond.instanceMethod yX4_isWhole, Cond.selects RX4 yX4_isWhole yX4_isWhole, Cond.initialized RX4, Cond.code yX4_isWhole cX4_isWhole 5 (some .boolean), Cond.fieldLink RX4 12 "RowPages" "transactions" "LRowPages$Transactions;", Cond.fieldLink RX4 19 "RowPages" "slots" "LRowPages$Slots;", Cond.methodLink RX4 167 yX4_checkPage, Cond.static yX4_checkPage, Cond.code yX4_checkPage cX4_checkPage 1 none, Cond.classLink RX4 83 "java/lang/IllegalArgumentException", Cond.initialized "java/lang/IllegalArgumentException", Cond.methodLink RX4 170 yX3_settled, Cond.instanceMethod yX3_settled, Cond.selects RX3 yX3_settled yX3_settled, Cond.initialized RX3, Cond.code yX3_settled cX3_settled 4 (some .long), Cond.fieldLink RX3 35 "RowPages$Transactions" "committed" "J", Cond.fieldLink RX3 19 "RowPages$Transactions" "count" "I", Cond.fieldLink RX3 15 "RowPages$Transactions" "snapshots" "[J", Cond.methodLink RX3 57 yX3_isActive, Cond.instanceMethod yX3_isActive, Cond.selects RX3 yX3_isActive yX3_isActive]
def wsL_isWhole_r2 : List Cond := [Cond.code yX3_isActive cX3_isActive 2 (some .boolean), Cond.fieldLink RX3 23 "RowPages$Transactions" "active" "J", Cond.methodLink RX3 27 yX3_has, Cond.static yX3_has, Cond.code yX3_has cX3_has 3 (some .boolean), Cond.methodLink RX4 174 yX4_firstOf, Cond.static yX4_firstOf, Cond.code yX4_firstOf cX4_firstOf 1 (some .int), Cond.methodLink RX4 193 yX1_isUsed, Cond.instanceMethod yX1_isUsed, Cond.selects RX1 yX1_isUsed yX1_isUsed, Cond.initialized RX1, Cond.code yX1_isUsed cX1_isUsed 2 (some .boolean), Cond.fieldLink RX1 9 "RowPages$Slots" "keys" "[I", Cond.methodLink RX4 196 yX4_isSeenByAll, Cond.instanceMethod yX4_isSeenByAll, Cond.selects RX4 yX4_isSeenByAll yX4_isSeenByAll, Cond.code yX4_isSeenByAll cX4_isSeenByAll 4 (some .boolean), Cond.fieldLink RX4 203 "RowPages$Slots" "frozen" "[Z", Cond.fieldLink RX4 243 "RowPages$Slots" "births" "[I", Cond.methodLink RX4 206 yX1_hasDeath, Cond.instanceMethod yX1_hasDeath, Cond.selects RX1 yX1_hasDeath yX1_hasDeath, Cond.code yX1_hasDeath cX1_hasDeath 2 (some .boolean)]
def wsL_isWhole_r3 : List Cond := [Cond.fieldLink RX1 28 "RowPages$Slots" "deaths" "[I", Cond.methodLink RX4 286 yX3_has]
def wsL_isWhole : List Cond := .codeWith yL_isWhole cL_isWhole 4 (some .int) [(0, 16, 19, 25)] :: ((wsL_isWhole_r1 ++ (wsL_isWhole_r2 ++ wsL_isWhole_r3)) ++ wsX40 ++ wsX30 ++ wsX10 ++ (vx_atS RX4 87 "java/lang/IllegalArgumentException" ["java/lang/RuntimeException", "java/lang/Exception"]).filter goodWord)
def wsL_slot_r1 : List Cond := [Cond.classLink RL 25 "java/lang/IllegalArgumentException", Cond.methodLink RL 61 yX4_slot, Cond.instanceMethod yX4_slot, Cond.selects RX4 yX4_slot yX4_slot, Cond.initialized RX4, Cond.code yX4_slot cX4_slot 5 (some .int), Cond.fieldLink RX4 19 "RowPages" "slots" "LRowPages$Slots;", Cond.fieldLink RX4 202 "RowPages$Slots" "keys" "[I", Cond.fieldLink RX4 203 "RowPages$Slots" "frozen" "[Z", Cond.fieldLink RX4 157 "RowPages$Slots" "nexts" "[I", Cond.methodLink RX4 167 yX4_checkPage, Cond.static yX4_checkPage, Cond.code yX4_checkPage cX4_checkPage 1 none, Cond.classLink RX4 83 "java/lang/IllegalArgumentException", Cond.initialized "java/lang/IllegalArgumentException", Cond.methodLink RX4 199 yX4_checkSlot, Cond.static yX4_checkSlot, Cond.code yX4_checkSlot cX4_checkSlot 1 none, Cond.methodLink RX4 174 yX4_firstOf, Cond.static yX4_firstOf, Cond.code yX4_firstOf cX4_firstOf 1 (some .int), Cond.methodLink RX4 193 yX1_isUsed, Cond.instanceMethod yX1_isUsed, Cond.selects RX1 yX1_isUsed yX1_isUsed]
def wsL_slot_r2 : List Cond := [Cond.initialized RX1, Cond.code yX1_isUsed cX1_isUsed 2 (some .boolean), Cond.fieldLink RX1 9 "RowPages$Slots" "keys" "[I", Cond.methodLink RX4 206 yX1_hasDeath, Cond.instanceMethod yX1_hasDeath, Cond.selects RX1 yX1_hasDeath yX1_hasDeath, Cond.code yX1_hasDeath cX1_hasDeath 2 (some .boolean), Cond.fieldLink RX1 28 "RowPages$Slots" "deaths" "[I", Cond.methodLink RX4 111 yX4_isPlace, Cond.static yX4_isPlace, Cond.code yX4_isPlace cX4_isPlace 1 (some .boolean), Cond.methodLink RX4 163 yX4_slotOf, Cond.static yX4_slotOf, Cond.code yX4_slotOf cX4_slotOf 1 (some .int)]
def wsL_slot : List Cond := .codeWith yL_slot cL_slot 5 (some .int) [(0, 10, 13, 25)] :: ((wsL_slot_r1 ++ wsL_slot_r2) ++ wsX40 ++ wsX10 ++ (vx_atS RX4 87 "java/lang/IllegalArgumentException" ["java/lang/RuntimeException", "java/lang/Exception"]).filter goodWord)
def wsL_entries : List Cond := .codeWith yL_entries cL_entries 4 (some .int) [(0, 9, 12, 25)] :: ([.classLink RL 25 "java/lang/IllegalArgumentException", .methodLink RL 64 yX4_entries, .instanceMethod yX4_entries, .selects RX4 yX4_entries yX4_entries, .initialized RX4, .code yX4_entries cX4_entries 2 (some .int), .fieldLink RX4 26 "RowPages" "index" "LRowPages$Index;", .fieldLink RX4 209 "RowPages$Index" "counts" "[I", .methodLink RX4 105 yX4_checkKey, .static yX4_checkKey, .code yX4_checkKey cX4_checkKey 1 none, .classLink RX4 83 "java/lang/IllegalArgumentException", .initialized "java/lang/IllegalArgumentException"] ++ wsX40 ++ wsX00 ++ (vx_atS RX4 87 "java/lang/IllegalArgumentException" ["java/lang/RuntimeException", "java/lang/Exception"]).filter goodWord)
def wsL_fullness : List Cond := .codeWith yL_fullness cL_fullness 4 (some .int) [(0, 9, 12, 25)] :: ([.classLink RL 25 "java/lang/IllegalArgumentException", .methodLink RL 67 yX4_fullness, .instanceMethod yX4_fullness, .selects RX4 yX4_fullness yX4_fullness, .initialized RX4, .code yX4_fullness cX4_fullness 4 (some .float), .fieldLink RX4 19 "RowPages" "slots" "LRowPages$Slots;", .constantFloat RX4 212 (1090519040), .methodLink RX4 167 yX4_checkPage, .static yX4_checkPage, .code yX4_checkPage cX4_checkPage 1 none, .classLink RX4 83 "java/lang/IllegalArgumentException", .initialized "java/lang/IllegalArgumentException", .methodLink RX4 174 yX4_firstOf, .static yX4_firstOf, .code yX4_firstOf cX4_firstOf 1 (some .int), .methodLink RX4 193 yX1_isUsed, .instanceMethod yX1_isUsed, .selects RX1 yX1_isUsed yX1_isUsed, .initialized RX1, .code yX1_isUsed cX1_isUsed 2 (some .boolean), .fieldLink RX1 9 "RowPages$Slots" "keys" "[I"] ++ wsX40 ++ wsX10 ++ (vx_atS RX4 87 "java/lang/IllegalArgumentException" ["java/lang/RuntimeException", "java/lang/Exception"]).filter goodWord)
def wsL_law0_r1 : List Cond := [Cond.classLink RL 8 RX4, Cond.instantiable RX4 6, Cond.initialized RX4, Cond.classLink RL 72 RX5, Cond.instantiable RX5 17, Cond.initialized RX5, Cond.arrayClass .long, Cond.arrayClass .double, Cond.methodLink RL 71 yX4_init, Cond.instanceMethod yX4_init, Cond.code yX4_init cX4_init 1 none, Cond.methodLink RX4 3 objectInit, Cond.instanceMethod objectInit, Cond.code objectInit ⟨#[0xb1]⟩ 1 none, Cond.classLink RX4 9 RX3, Cond.instantiable RX3 6, Cond.initialized RX3, Cond.fieldLink RX4 12 "RowPages" "transactions" "LRowPages$Transactions;", Cond.classLink RX4 16 RX1, Cond.instantiable RX1 9, Cond.initialized RX1, Cond.fieldLink RX4 19 "RowPages" "slots" "LRowPages$Slots;", Cond.classLink RX4 23 RX0, Cond.instantiable RX0 2]
def wsL_law0_r2 : List Cond := [Cond.initialized RX0, Cond.fieldLink RX4 26 "RowPages" "index" "LRowPages$Index;", Cond.classLink RX4 30 RX2, Cond.instantiable RX2 5, Cond.initialized RX2, Cond.fieldLink RX4 33 "RowPages" "table" "LRowPages$Table;", Cond.arrayClass .boolean, Cond.fieldLink RX4 37 "RowPages" "mapped" "[Z", Cond.fieldLink RX4 41 "RowPages" "freezingAge" "I", Cond.instanceMethod yX3_init, Cond.code yX3_init cX3_init 1 none, Cond.methodLink RX3 3 objectInit, Cond.arrayClass .int, Cond.fieldLink RX3 9 "RowPages$Transactions" "stamps" "[I", Cond.fieldLink RX3 15 "RowPages$Transactions" "snapshots" "[J", Cond.methodLink RX4 18 yX1_init, Cond.instanceMethod yX1_init, Cond.code yX1_init cX1_init 2 none, Cond.methodLink RX1 3 objectInit, Cond.fieldLink RX1 9 "RowPages$Slots" "keys" "[I", Cond.fieldLink RX1 15 "RowPages$Slots" "values" "[I", Cond.fieldLink RX1 18 "RowPages$Slots" "births" "[I", Cond.fieldLink RX1 21 "RowPages$Slots" "birthStamps" "[I", Cond.fieldLink RX1 24 "RowPages$Slots" "frozen" "[Z"]
def wsL_law0_r3 : List Cond := [Cond.fieldLink RX1 28 "RowPages$Slots" "deaths" "[I", Cond.fieldLink RX1 31 "RowPages$Slots" "deathStamps" "[I", Cond.fieldLink RX1 34 "RowPages$Slots" "nexts" "[I", Cond.fieldLink RX1 37 "RowPages$Slots" "rows" "[I", Cond.methodLink RX1 40 yX1_empty, Cond.instanceMethod yX1_empty, Cond.selects RX1 yX1_empty yX1_empty, Cond.code yX1_empty cX1_empty 2 none, Cond.instanceMethod yX0_init, Cond.code yX0_init cX0_init 1 none, Cond.methodLink RX0 3 objectInit, Cond.classLink RX0 9 "[[I", Cond.fieldLink RX0 11 "RowPages$Index" "places" "[[I", Cond.fieldLink RX0 16 "RowPages$Index" "counts" "[I", Cond.instanceMethod yX2_init, Cond.code yX2_init cX2_init 1 none, Cond.methodLink RX2 3 objectInit, Cond.fieldLink RX2 9 "RowPages$Table" "keys" "[I", Cond.fieldLink RX2 15 "RowPages$Table" "values" "[I", Cond.fieldLink RX2 18 "RowPages$Table" "births" "[I", Cond.fieldLink RX2 21 "RowPages$Table" "deaths" "[I", Cond.methodLink RL 74 yX5_init, Cond.instanceMethod yX5_init, Cond.code yX5_init cX5_init 1 none]
def wsL_law0_r4 : List Cond := [Cond.methodLink RX5 1 objectInit, Cond.fieldLink RX5 7 "RowPagesModel" "freezing" "I", Cond.fieldLink RX5 13 "RowPagesModel" "stamp" "[I", Cond.fieldLink RX5 17 "RowPagesModel" "state" "[I", Cond.fieldLink RX5 20 "RowPagesModel" "snapshot" "[J", Cond.fieldLink RX5 24 "RowPagesModel" "isUsed" "[Z", Cond.fieldLink RX5 28 "RowPagesModel" "key" "[I", Cond.fieldLink RX5 31 "RowPagesModel" "value" "[I", Cond.fieldLink RX5 34 "RowPagesModel" "birth" "[I", Cond.fieldLink RX5 37 "RowPagesModel" "isFrozen" "[Z", Cond.fieldLink RX5 40 "RowPagesModel" "death" "[I", Cond.fieldLink RX5 43 "RowPagesModel" "next" "[I", Cond.fieldLink RX5 46 "RowPagesModel" "isMapped" "[Z", Cond.fieldLink RX5 49 "RowPagesModel" "entry" "[I", Cond.fieldLink RX5 52 "RowPagesModel" "entries" "[I", Cond.methodLink RL 75 yL_begin, Cond.static yL_begin, Cond.initialized RL, Cond.codeWith yL_begin cL_begin 3 (some .int) [(0, 8, 11, 13)], Cond.classLink RL 13 "java/lang/IllegalStateException", Cond.methodLink RL 7 yX4_begin, Cond.instanceMethod yX4_begin, Cond.selects RX4 yX4_begin yX4_begin, Cond.code yX4_begin cX4_begin 1 (some .int)]
def wsL_law0_r5 : List Cond := [Cond.classLink RX4 49 "java/lang/IllegalStateException", Cond.initialized "java/lang/IllegalStateException", Cond.methodLink RX4 45 yX3_areAllUsed, Cond.instanceMethod yX3_areAllUsed, Cond.selects RX3 yX3_areAllUsed yX3_areAllUsed, Cond.code yX3_areAllUsed cX3_areAllUsed 1 (some .boolean), Cond.fieldLink RX3 19 "RowPages$Transactions" "count" "I", Cond.methodLink RX4 56 yX4_oldest, Cond.instanceMethod yX4_oldest, Cond.selects RX4 yX4_oldest yX4_oldest, Cond.code yX4_oldest cX4_oldest 3 (some .int), Cond.fieldLink RX4 203 "RowPages$Slots" "frozen" "[Z", Cond.fieldLink RX4 216 "RowPages$Slots" "birthStamps" "[I", Cond.methodLink RX4 222 Lib.Math.max.name, Cond.static Lib.Math.max.name, Cond.initialized "java/lang/Math", Cond.code Lib.Math.max.name Lib.Math.max.code 2 (some .int), Cond.fieldLink RX4 227 "RowPages$Slots" "deathStamps" "[I", Cond.methodLink RX4 213 yX3_oldestActiveAge, Cond.instanceMethod yX3_oldestActiveAge, Cond.selects RX3 yX3_oldestActiveAge yX3_oldestActiveAge, Cond.code yX3_oldestActiveAge cX3_oldestActiveAge 3 (some .int), Cond.methodLink RX3 63 Lib.Math.max.name, Cond.methodLink RX3 57 yX3_isActive]
def wsL_law0_r6 : List Cond := [Cond.instanceMethod yX3_isActive, Cond.selects RX3 yX3_isActive yX3_isActive, Cond.code yX3_isActive cX3_isActive 2 (some .boolean), Cond.fieldLink RX3 23 "RowPages$Transactions" "active" "J", Cond.methodLink RX3 27 yX3_has, Cond.static yX3_has, Cond.code yX3_has cX3_has 3 (some .boolean), Cond.methodLink RX3 60 yX3_ageOf, Cond.instanceMethod yX3_ageOf, Cond.selects RX3 yX3_ageOf yX3_ageOf, Cond.code yX3_ageOf cX3_ageOf 2 (some .int), Cond.fieldLink RX3 38 "RowPages$Transactions" "nextStamp" "I", Cond.static yX4_distance, Cond.code yX4_distance cX4_distance 2 (some .int), Cond.methodLink RX4 260 yJ9_floorMod_7cf53, Cond.static yJ9_floorMod_7cf53, Cond.initialized RJ9, Cond.code yJ9_floorMod_7cf53 cJ9_floorMod_7cf53 3 (some .int), Cond.methodLink RX4 193 yX1_isUsed, Cond.instanceMethod yX1_isUsed, Cond.selects RX1 yX1_isUsed yX1_isUsed, Cond.code yX1_isUsed cX1_isUsed 2 (some .boolean), Cond.methodLink RX4 219 yX3_ageOf, Cond.methodLink RX4 206 yX1_hasDeath]
def wsL_law0_r7 : List Cond := [Cond.instanceMethod yX1_hasDeath, Cond.selects RX1 yX1_hasDeath yX1_hasDeath, Cond.code yX1_hasDeath cX1_hasDeath 2 (some .boolean), Cond.methodLink RX4 62 yX3_start, Cond.instanceMethod yX3_start, Cond.selects RX3 yX3_start yX3_start, Cond.code yX3_start cX3_start 2 (some .int), Cond.fieldLink RX3 35 "RowPages$Transactions" "committed" "J", Cond.methodLink RX3 41 yX3_skip, Cond.instanceMethod yX3_skip, Cond.selects RX3 yX3_skip yX3_skip, Cond.code yX3_skip cX3_skip 2 (some .int), Cond.methodLink RL 80 yX5_begin, Cond.instanceMethod yX5_begin, Cond.selects RX5 yX5_begin yX5_begin, Cond.code yX5_begin cX5_begin 4 (some .int), Cond.fieldLink RX5 58 "RowPagesModel" "transactions" "I", Cond.fieldLink RX5 65 "RowPagesModel" "nextStamp" "I", Cond.methodLink RX5 80 yX5_oldestNow, Cond.instanceMethod yX5_oldestNow, Cond.selects RX5 yX5_oldestNow yX5_oldestNow, Cond.code yX5_oldestNow cX5_oldestNow 5 (some .int), Cond.methodLink RX5 76 yX5_ageOf, Cond.instanceMethod yX5_ageOf]
def wsL_law0_r8 : List Cond := [Cond.selects RX5 yX5_ageOf yX5_ageOf, Cond.code yX5_ageOf cX5_ageOf 2 (some .int), Cond.methodLink RX5 68 yX5_isActive, Cond.instanceMethod yX5_isActive, Cond.selects RX5 yX5_isActive yX5_isActive, Cond.code yX5_isActive cX5_isActive 2 (some .boolean), Cond.methodLink RX5 84 yX5_isFine, Cond.instanceMethod yX5_isFine, Cond.selects RX5 yX5_isFine yX5_isFine, Cond.code yX5_isFine cX5_isFine 2 (some .boolean), Cond.fieldLink RX5 55 "RowPagesModel" "thrown" "I", Cond.methodLink RL 81 yX5_thrown, Cond.instanceMethod yX5_thrown, Cond.selects RX5 yX5_thrown yX5_thrown, Cond.code yX5_thrown cX5_thrown 1 (some .int), Cond.methodLink RL 84 yL_end, Cond.static yL_end, Cond.codeWith yL_end cL_end 5 (some .int) [(0, 10, 13, 19), (0, 10, 17, 13)], Cond.classLink RL 19 "java/lang/IndexOutOfBoundsException", Cond.methodLink RL 15 yX4_end, Cond.instanceMethod yX4_end, Cond.selects RX4 yX4_end yX4_end, Cond.code yX4_end cX4_end 3 (some .int), Cond.methodLink RX4 65 yX4_checkTransaction]
def wsL_law0_r9 : List Cond := [Cond.instanceMethod yX4_checkTransaction, Cond.selects RX4 yX4_checkTransaction yX4_checkTransaction, Cond.code yX4_checkTransaction cX4_checkTransaction 2 none, Cond.classLink RX4 233 "java/lang/IndexOutOfBoundsException", Cond.initialized "java/lang/IndexOutOfBoundsException", Cond.methodLink RX4 230 yX3_wereBegun, Cond.instanceMethod yX3_wereBegun, Cond.selects RX3 yX3_wereBegun yX3_wereBegun, Cond.code yX3_wereBegun cX3_wereBegun 2 (some .boolean), Cond.methodLink RX4 69 yX4_checkActive, Cond.instanceMethod yX4_checkActive, Cond.selects RX4 yX4_checkActive yX4_checkActive, Cond.code yX4_checkActive cX4_checkActive 2 none, Cond.methodLink RX4 238 yX3_isActive, Cond.methodLink RX4 72 yX3_finish, Cond.instanceMethod yX3_finish, Cond.selects RX3 yX3_finish yX3_finish, Cond.code yX3_finish cX3_finish 3 none, Cond.constantLong RX3 45 (-1), Cond.methodLink RX4 76 yX1_takeOffDeaths, Cond.instanceMethod yX1_takeOffDeaths, Cond.selects RX1 yX1_takeOffDeaths yX1_takeOffDeaths, Cond.code yX1_takeOffDeaths cX1_takeOffDeaths 3 none, Cond.methodLink RX4 79 yX2_takeOffDeaths]
def wsL_law0_r10 : List Cond := [Cond.instanceMethod yX2_takeOffDeaths, Cond.selects RX2 yX2_takeOffDeaths yX2_takeOffDeaths, Cond.code yX2_takeOffDeaths cX2_takeOffDeaths 3 none, Cond.fieldLink RX2 24 "RowPages$Table" "count" "I", Cond.methodLink RX4 80 yX3_activeCount, Cond.instanceMethod yX3_activeCount, Cond.selects RX3 yX3_activeCount yX3_activeCount, Cond.code yX3_activeCount cX3_activeCount 1 (some .int), Cond.methodLink RX3 47 yJ13_bitCount_95d88, Cond.static yJ13_bitCount_95d88, Cond.initialized RJ13, Cond.code yJ13_bitCount_95d88 cJ13_bitCount_95d88 2 (some .int), Cond.constantLong RJ13 314 (6148914691236517205), Cond.constantLong RJ13 316 (3689348814741910323), Cond.constantLong RJ13 318 (1085102592571150095), Cond.methodLink RL 87 yX5_end, Cond.instanceMethod yX5_end, Cond.selects RX5 yX5_end yX5_end, Cond.code yX5_end cX5_end 6 (some .int), Cond.methodLink RX5 87 yX5_isTransaction, Cond.instanceMethod yX5_isTransaction, Cond.selects RX5 yX5_isTransaction yX5_isTransaction, Cond.code yX5_isTransaction cX5_isTransaction 2 (some .boolean), Cond.methodLink RX5 61 yX5_isIn]
def wsL_law0_r11 : List Cond := [Cond.static yX5_isIn, Cond.code yX5_isIn cX5_isIn 3 (some .boolean), Cond.methodLink RL 88 yL_jump, Cond.static yL_jump, Cond.codeWith yL_jump cL_jump 4 (some .int) [(0, 9, 12, 25), (0, 9, 15, 13)], Cond.classLink RL 25 "java/lang/IllegalArgumentException", Cond.methodLink RL 21 yX4_jump, Cond.instanceMethod yX4_jump, Cond.selects RX4 yX4_jump yX4_jump, Cond.code yX4_jump cX4_jump 3 (some .int), Cond.classLink RX4 83 "java/lang/IllegalArgumentException", Cond.initialized "java/lang/IllegalArgumentException", Cond.methodLink RX4 90 yX3_skip, Cond.methodLink RL 91 yX5_jump, Cond.instanceMethod yX5_jump, Cond.selects RX5 yX5_jump yX5_jump, Cond.code yX5_jump cX5_jump 2 (some .int), Cond.methodLink RL 92 yL_stamp, Cond.static yL_stamp, Cond.codeWith yL_stamp cL_stamp 4 (some .int) [(0, 9, 12, 19)], Cond.methodLink RL 27 yX4_stamp, Cond.instanceMethod yX4_stamp, Cond.selects RX4 yX4_stamp yX4_stamp, Cond.code yX4_stamp cX4_stamp 2 (some .int)]
def wsL_law0_r12 : List Cond := [Cond.fieldLink RX4 94 "RowPages$Transactions" "stamps" "[I", Cond.methodLink RL 94 yX5_stamp, Cond.instanceMethod yX5_stamp, Cond.selects RX5 yX5_stamp yX5_stamp, Cond.code yX5_stamp cX5_stamp 2 (some .int), Cond.methodLink RL 95 yL_isBefore, Cond.static yL_isBefore, Cond.codeWith yL_isBefore cL_isBefore 5 (some .int) [(0, 17, 20, 25)], Cond.methodLink RL 30 yX4_isBefore, Cond.instanceMethod yX4_isBefore, Cond.selects RX4 yX4_isBefore yX4_isBefore, Cond.code yX4_isBefore cX4_isBefore 3 (some .boolean), Cond.methodLink RX4 98 yX4_checkStamp, Cond.static yX4_checkStamp, Cond.code yX4_checkStamp cX4_checkStamp 1 none, Cond.methodLink RX4 101 yX4_distance, Cond.methodLink RL 98 yX5_isBefore, Cond.instanceMethod yX5_isBefore, Cond.selects RX5 yX5_isBefore yX5_isBefore, Cond.code yX5_isBefore cX5_isBefore 4 (some .boolean), Cond.methodLink RL 99 yL_read, Cond.static yL_read, Cond.codeWith yL_read cL_read 5 (some .int) [(0, 10, 13, 19), (0, 10, 17, 25), (0, 10, 21, 13)], Cond.methodLink RL 34 yX4_read]
def wsL_law0_r13 : List Cond := [Cond.instanceMethod yX4_read, Cond.selects RX4 yX4_read yX4_read, Cond.code yX4_read cX4_read 4 (some .int), Cond.fieldLink RX4 115 "RowPages$Slots" "values" "[I", Cond.methodLink RX4 105 yX4_checkKey, Cond.static yX4_checkKey, Cond.code yX4_checkKey cX4_checkKey 1 none, Cond.methodLink RX4 108 yX4_seenPlace, Cond.instanceMethod yX4_seenPlace, Cond.selects RX4 yX4_seenPlace yX4_seenPlace, Cond.code yX4_seenPlace cX4_seenPlace 5 (some .int), Cond.fieldLink RX4 209 "RowPages$Index" "counts" "[I", Cond.fieldLink RX4 263 "RowPages$Index" "places" "[[I", Cond.methodLink RX4 267 yX4_seenInChain, Cond.instanceMethod yX4_seenInChain, Cond.selects RX4 yX4_seenInChain yX4_seenInChain, Cond.code yX4_seenInChain cX4_seenInChain 5 (some .int), Cond.fieldLink RX4 157 "RowPages$Slots" "nexts" "[I", Cond.methodLink RX4 111 yX4_isPlace, Cond.static yX4_isPlace, Cond.code yX4_isPlace cX4_isPlace 1 (some .boolean), Cond.methodLink RX4 270 yX4_sees, Cond.instanceMethod yX4_sees, Cond.selects RX4 yX4_sees yX4_sees]
def wsL_law0_r14 : List Cond := [Cond.code yX4_sees cX4_sees 4 (some .boolean), Cond.fieldLink RX4 243 "RowPages$Slots" "births" "[I", Cond.fieldLink RX4 247 "RowPages$Slots" "deaths" "[I", Cond.methodLink RX4 127 yX3_knows, Cond.instanceMethod yX3_knows, Cond.selects RX3 yX3_knows yX3_knows, Cond.code yX3_knows cX3_knows 3 (some .boolean), Cond.methodLink RL 101 yX5_read, Cond.instanceMethod yX5_read, Cond.selects RX5 yX5_read yX5_read, Cond.code yX5_read cX5_read 3 (some .int), Cond.methodLink RX5 103 yX5_readNow, Cond.instanceMethod yX5_readNow, Cond.selects RX5 yX5_readNow yX5_readNow, Cond.code yX5_readNow cX5_readNow 5 (some .int), Cond.methodLink RX5 96 yX5_isKey, Cond.static yX5_isKey, Cond.code yX5_isKey cX5_isKey 1 (some .boolean), Cond.methodLink RX5 99 yX5_seen, Cond.instanceMethod yX5_seen, Cond.selects RX5 yX5_seen yX5_seen, Cond.code yX5_seen cX5_seen 5 (some .int), Cond.methodLink RX5 93 yX5_sees, Cond.instanceMethod yX5_sees]
def wsL_law0_r15 : List Cond := [Cond.selects RX5 yX5_sees yX5_sees, Cond.code yX5_sees cX5_sees 3 (some .boolean), Cond.methodLink RX5 90 yX5_knows, Cond.instanceMethod yX5_knows, Cond.selects RX5 yX5_knows yX5_knows, Cond.code yX5_knows cX5_knows 3 (some .boolean), Cond.methodLink RX5 72 yX5_isInSnapshot, Cond.instanceMethod yX5_isInSnapshot, Cond.selects RX5 yX5_isInSnapshot yX5_isInSnapshot, Cond.code yX5_isInSnapshot cX5_isInSnapshot 3 (some .boolean), Cond.methodLink RL 102 yL_readPlain, Cond.static yL_readPlain, Cond.codeWith yL_readPlain cL_readPlain 5 (some .int) [(0, 10, 13, 19), (0, 10, 17, 25), (0, 10, 21, 13)], Cond.methodLink RL 38 yX4_readPlain, Cond.instanceMethod yX4_readPlain, Cond.selects RX4 yX4_readPlain yX4_readPlain, Cond.code yX4_readPlain cX4_readPlain 4 (some .int), Cond.fieldLink RX4 118 "RowPages$Table" "count" "I", Cond.fieldLink RX4 121 "RowPages$Table" "keys" "[I", Cond.fieldLink RX4 124 "RowPages$Table" "births" "[I", Cond.fieldLink RX4 131 "RowPages$Table" "deaths" "[I", Cond.fieldLink RX4 134 "RowPages$Table" "values" "[I", Cond.methodLink RL 104 yX5_readPlain, Cond.instanceMethod yX5_readPlain]
def wsL_law0_r16 : List Cond := [Cond.selects RX5 yX5_readPlain yX5_readPlain, Cond.code yX5_readPlain cX5_readPlain 3 (some .int), Cond.methodLink RL 105 yL_write, Cond.static yL_write, Cond.codeWith yL_write cL_write 6 (some .int) [(0, 12, 15, 19), (0, 12, 19, 25), (0, 12, 23, 13)], Cond.methodLink RL 41 yX4_write, Cond.instanceMethod yX4_write, Cond.selects RX4 yX4_write yX4_write, Cond.code yX4_write cX4_write 7 (some .int), Cond.constant RX4 166 (100000), Cond.methodLink RX4 135 yX4_checkValue, Cond.static yX4_checkValue, Cond.code yX4_checkValue cX4_checkValue 1 none, Cond.methodLink RX4 138 yX4_checkNotRefused, Cond.instanceMethod yX4_checkNotRefused, Cond.selects RX4 yX4_checkNotRefused yX4_checkNotRefused, Cond.code yX4_checkNotRefused cX4_checkNotRefused 4 none, Cond.fieldLink RX4 202 "RowPages$Slots" "keys" "[I", Cond.methodLink RX4 244 yX3_isRival, Cond.instanceMethod yX3_isRival, Cond.selects RX3 yX3_isRival yX3_isRival, Cond.code yX3_isRival cX3_isRival 3 (some .boolean), Cond.methodLink RX3 68 yX3_knows, Cond.methodLink RX4 142 yX4_placeForNew]
def wsL_law0_r17 : List Cond := [Cond.instanceMethod yX4_placeForNew, Cond.selects RX4 yX4_placeForNew yX4_placeForNew, Cond.code yX4_placeForNew cX4_placeForNew 3 (some .int), Cond.methodLink RX4 154 yX4_pageOf, Cond.static yX4_pageOf, Cond.code yX4_pageOf cX4_pageOf 1 (some .int), Cond.methodLink RX4 174 yX4_firstOf, Cond.static yX4_firstOf, Cond.code yX4_firstOf cX4_firstOf 1 (some .int), Cond.methodLink RX4 273 yX1_lowestFree, Cond.instanceMethod yX1_lowestFree, Cond.selects RX1 yX1_lowestFree yX1_lowestFree, Cond.code yX1_lowestFree cX1_lowestFree 4 (some .int), Cond.methodLink RX1 44 yX1_isUsed, Cond.methodLink RX4 147 yX4_putDeath, Cond.instanceMethod yX4_putDeath, Cond.selects RX4 yX4_putDeath yX4_putDeath, Cond.code yX4_putDeath cX4_putDeath 3 none, Cond.fieldLink RX4 276 "RowPages$Slots" "rows" "[I", Cond.methodLink RX4 279 yX2_putDeath, Cond.instanceMethod yX2_putDeath, Cond.selects RX2 yX2_putDeath yX2_putDeath, Cond.code yX2_putDeath cX2_putDeath 3 none, Cond.methodLink RX4 150 yX4_putVersion]
def wsL_law0_r18 : List Cond := [Cond.instanceMethod yX4_putVersion, Cond.selects RX4 yX4_putVersion yX4_putVersion, Cond.code yX4_putVersion cX4_putVersion 5 none, Cond.methodLink RX4 280 yX2_add, Cond.instanceMethod yX2_add, Cond.selects RX2 yX2_add yX2_add, Cond.code yX2_add cX2_add 5 (some .int), Cond.methodLink RX4 160 yX0_add, Cond.instanceMethod yX0_add, Cond.selects RX0 yX0_add yX0_add, Cond.code yX0_add cX0_add 3 none, Cond.methodLink RX4 163 yX4_slotOf, Cond.static yX4_slotOf, Cond.code yX4_slotOf cX4_slotOf 1 (some .int), Cond.methodLink RL 108 yX5_write, Cond.instanceMethod yX5_write, Cond.selects RX5 yX5_write yX5_write, Cond.code yX5_write cX5_write 11 (some .int), Cond.constant RX5 123 (100000), Cond.methodLink RX5 109 yX5_free, Cond.instanceMethod yX5_free, Cond.selects RX5 yX5_free yX5_free, Cond.code yX5_free cX5_free 4 (some .int), Cond.methodLink RX5 112 yX5_isRefused]
def wsL_law0_r19 : List Cond := [Cond.instanceMethod yX5_isRefused, Cond.selects RX5 yX5_isRefused yX5_isRefused, Cond.code yX5_isRefused cX5_isRefused 5 (some .boolean), Cond.methodLink RX5 106 yX5_bars, Cond.instanceMethod yX5_bars, Cond.selects RX5 yX5_bars yX5_bars, Cond.code yX5_bars cX5_bars 3 (some .boolean), Cond.methodLink RX5 115 yX5_puts, Cond.instanceMethod yX5_puts, Cond.selects RX5 yX5_puts yX5_puts, Cond.code yX5_puts cX5_puts 5 none, Cond.methodLink RX5 119 yX5_dies, Cond.instanceMethod yX5_dies, Cond.selects RX5 yX5_dies yX5_dies, Cond.code yX5_dies cX5_dies 3 none, Cond.methodLink RL 109 yL_delete, Cond.static yL_delete, Cond.codeWith yL_delete cL_delete 5 (some .int) [(0, 17, 20, 19), (0, 17, 24, 25), (0, 17, 28, 13)], Cond.methodLink RL 45 yX4_delete, Cond.instanceMethod yX4_delete, Cond.selects RX4 yX4_delete yX4_delete, Cond.code yX4_delete cX4_delete 4 (some .boolean), Cond.methodLink RL 111 yX5_delete, Cond.instanceMethod yX5_delete]
def wsL_law0_r20 : List Cond := [Cond.selects RX5 yX5_delete yX5_delete, Cond.code yX5_delete cX5_delete 7 (some .boolean), Cond.methodLink RL 112 yL_clean, Cond.static yL_clean, Cond.codeWith yL_clean cL_clean 4 (some .int) [(0, 9, 12, 25)], Cond.methodLink RL 48 yX4_clean, Cond.instanceMethod yX4_clean, Cond.selects RX4 yX4_clean yX4_clean, Cond.code yX4_clean cX4_clean 6 (some .int), Cond.methodLink RX4 167 yX4_checkPage, Cond.static yX4_checkPage, Cond.code yX4_checkPage cX4_checkPage 1 none, Cond.methodLink RX4 170 yX3_settled, Cond.instanceMethod yX3_settled, Cond.selects RX3 yX3_settled yX3_settled, Cond.code yX3_settled cX3_settled 4 (some .long), Cond.methodLink RX4 177 yX4_canGo, Cond.instanceMethod yX4_canGo, Cond.selects RX4 yX4_canGo yX4_canGo, Cond.code yX4_canGo cX4_canGo 4 (some .boolean), Cond.methodLink RX4 283 yX3_isTakenBack, Cond.instanceMethod yX3_isTakenBack, Cond.selects RX3 yX3_isTakenBack yX3_isTakenBack, Cond.code yX3_isTakenBack cX3_isTakenBack 2 (some .boolean)]
def wsL_law0_r21 : List Cond := [Cond.methodLink RX3 31 yX3_wereBegun, Cond.methodLink RX4 286 yX3_has, Cond.methodLink RX4 181 yX4_takeOut, Cond.instanceMethod yX4_takeOut, Cond.selects RX4 yX4_takeOut yX4_takeOut, Cond.code yX4_takeOut cX4_takeOut 3 none, Cond.methodLink RX4 290 yX1_bypass, Cond.instanceMethod yX1_bypass, Cond.selects RX1 yX1_bypass yX1_bypass, Cond.code yX1_bypass cX1_bypass 4 none, Cond.methodLink RX4 293 yX0_move, Cond.instanceMethod yX0_move, Cond.selects RX0 yX0_move yX0_move, Cond.code yX0_move cX0_move 7 none, Cond.methodLink RX4 297 yX1_empty, Cond.methodLink RX4 184 yX4_freezeOldOnes, Cond.instanceMethod yX4_freezeOldOnes, Cond.selects RX4 yX4_freezeOldOnes yX4_freezeOldOnes, Cond.code yX4_freezeOldOnes cX4_freezeOldOnes 5 none, Cond.methodLink RX4 188 yX4_isWhole, Cond.instanceMethod yX4_isWhole, Cond.selects RX4 yX4_isWhole yX4_isWhole, Cond.code yX4_isWhole cX4_isWhole 5 (some .boolean), Cond.methodLink RX4 196 yX4_isSeenByAll]
def wsL_law0_r22 : List Cond := [Cond.instanceMethod yX4_isSeenByAll, Cond.selects RX4 yX4_isSeenByAll yX4_isSeenByAll, Cond.code yX4_isSeenByAll cX4_isSeenByAll 4 (some .boolean), Cond.methodLink RL 114 yX5_clean, Cond.instanceMethod yX5_clean, Cond.selects RX5 yX5_clean yX5_clean, Cond.code yX5_clean cX5_clean 4 (some .int), Cond.methodLink RX5 127 yX5_isPage, Cond.static yX5_isPage, Cond.code yX5_isPage cX5_isPage 1 (some .boolean), Cond.methodLink RX5 130 yX5_canGo, Cond.instanceMethod yX5_canGo, Cond.selects RX5 yX5_canGo yX5_canGo, Cond.code yX5_canGo cX5_canGo 2 (some .boolean), Cond.methodLink RX5 124 yX5_isPast, Cond.instanceMethod yX5_isPast, Cond.selects RX5 yX5_isPast yX5_isPast, Cond.code yX5_isPast cX5_isPast 4 (some .boolean), Cond.methodLink RX5 133 yX5_leaves, Cond.instanceMethod yX5_leaves, Cond.selects RX5 yX5_leaves yX5_leaves, Cond.code yX5_leaves cX5_leaves 5 none, Cond.methodLink RX5 137 yX5_isWholeNow, Cond.instanceMethod yX5_isWholeNow]
def wsL_law0_r23 : List Cond := [Cond.selects RX5 yX5_isWholeNow yX5_isWholeNow, Cond.code yX5_isWholeNow cX5_isWholeNow 4 (some .boolean), Cond.methodLink RL 115 yL_setFreezing, Cond.static yL_setFreezing, Cond.codeWith yL_setFreezing cL_setFreezing 4 (some .int) [(0, 9, 12, 25)], Cond.methodLink RL 51 yX4_setFreezing, Cond.instanceMethod yX4_setFreezing, Cond.selects RX4 yX4_setFreezing yX4_setFreezing, Cond.code yX4_setFreezing cX4_setFreezing 3 (some .int), Cond.methodLink RL 117 yX5_setFreezing, Cond.instanceMethod yX5_setFreezing, Cond.selects RX5 yX5_setFreezing yX5_setFreezing, Cond.code yX5_setFreezing cX5_setFreezing 3 (some .int), Cond.methodLink RL 118 yL_isMapped, Cond.static yL_isMapped, Cond.codeWith yL_isMapped cL_isMapped 4 (some .int) [(0, 16, 19, 25)], Cond.methodLink RL 54 yX4_isMapped, Cond.instanceMethod yX4_isMapped, Cond.selects RX4 yX4_isMapped yX4_isMapped, Cond.code yX4_isMapped cX4_isMapped 2 (some .boolean), Cond.methodLink RL 120 yX5_isMapped, Cond.instanceMethod yX5_isMapped, Cond.selects RX5 yX5_isMapped yX5_isMapped, Cond.code yX5_isMapped cX5_isMapped 2 (some .boolean)]
def wsL_law0_r24 : List Cond := [Cond.methodLink RL 121 yL_isWhole, Cond.static yL_isWhole, Cond.codeWith yL_isWhole cL_isWhole 4 (some .int) [(0, 16, 19, 25)], Cond.methodLink RL 58 yX4_isWhole, Cond.methodLink RL 123 yX5_isWhole, Cond.instanceMethod yX5_isWhole, Cond.selects RX5 yX5_isWhole yX5_isWhole, Cond.code yX5_isWhole cX5_isWhole 2 (some .boolean), Cond.methodLink RL 124 yL_slot, Cond.static yL_slot, Cond.codeWith yL_slot cL_slot 5 (some .int) [(0, 10, 13, 25)], Cond.methodLink RL 61 yX4_slot, Cond.instanceMethod yX4_slot, Cond.selects RX4 yX4_slot yX4_slot, Cond.code yX4_slot cX4_slot 5 (some .int), Cond.methodLink RX4 199 yX4_checkSlot, Cond.static yX4_checkSlot, Cond.code yX4_checkSlot cX4_checkSlot 1 none, Cond.methodLink RL 126 yX5_slot, Cond.instanceMethod yX5_slot, Cond.selects RX5 yX5_slot yX5_slot, Cond.code yX5_slot cX5_slot 4 (some .int), Cond.methodLink RL 127 yL_entries, Cond.static yL_entries]
def wsL_law0_r25 : List Cond := [Cond.codeWith yL_entries cL_entries 4 (some .int) [(0, 9, 12, 25)], Cond.methodLink RL 64 yX4_entries, Cond.instanceMethod yX4_entries, Cond.selects RX4 yX4_entries yX4_entries, Cond.code yX4_entries cX4_entries 2 (some .int), Cond.methodLink RL 129 yX5_entries, Cond.instanceMethod yX5_entries, Cond.selects RX5 yX5_entries yX5_entries, Cond.code yX5_entries cX5_entries 2 (some .int), Cond.methodLink RL 130 yL_fullness, Cond.static yL_fullness, Cond.codeWith yL_fullness cL_fullness 4 (some .int) [(0, 9, 12, 25)], Cond.methodLink RL 67 yX4_fullness, Cond.instanceMethod yX4_fullness, Cond.selects RX4 yX4_fullness yX4_fullness, Cond.code yX4_fullness cX4_fullness 4 (some .float), Cond.constantFloat RX4 212 (1090519040), Cond.methodLink RL 133 yX5_fullness, Cond.instanceMethod yX5_fullness, Cond.selects RX5 yX5_fullness yX5_fullness, Cond.code yX5_fullness cX5_fullness 4 (some .float), Cond.constantFloat RX5 140 (1090519040), Cond.methodLink RL 134 yX4_oldest, Cond.methodLink RL 137 yX5_oldest]
def wsL_law0_r26 : List Cond := [Cond.instanceMethod yX5_oldest, Cond.selects RX5 yX5_oldest yX5_oldest, Cond.code yX5_oldest cX5_oldest 1 (some .int)]
def wsL_law0 : List Cond := (wsL_law0_r1 ++ (wsL_law0_r2 ++ (wsL_law0_r3 ++ (wsL_law0_r4 ++ (wsL_law0_r5 ++ (wsL_law0_r6 ++ (wsL_law0_r7 ++ (wsL_law0_r8 ++ (wsL_law0_r9 ++ (wsL_law0_r10 ++ (wsL_law0_r11 ++ (wsL_law0_r12 ++ (wsL_law0_r13 ++ (wsL_law0_r14 ++ (wsL_law0_r15 ++ (wsL_law0_r16 ++ (wsL_law0_r17 ++ (wsL_law0_r18 ++ (wsL_law0_r19 ++ (wsL_law0_r20 ++ (wsL_law0_r21 ++ (wsL_law0_r22 ++ (wsL_law0_r23 ++ (wsL_law0_r24 ++ (wsL_law0_r25 ++ wsL_law0_r26))))))))))))))))))))))))) ++ wsX40 ++ wsX50 ++ wsX30 ++ wsX10 ++ wsX00 ++ wsX20 ++ ([] : List Cond)
def wsL_law : List Cond := wsL_law0 ++ (vx_atS RX4 53 "java/lang/IllegalStateException" ["java/lang/RuntimeException", "java/lang/Exception"]).filter goodWord ++ (vx_atS RX4 237 "java/lang/IndexOutOfBoundsException" ["java/lang/RuntimeException", "java/lang/Exception"]).filter goodWord ++ (vx_atS RX4 87 "java/lang/IllegalArgumentException" ["java/lang/RuntimeException", "java/lang/Exception"]).filter goodWord
theorem memIn_r {big : List Cond} (ws : List Cond) (ps : List Nat) (hp : ws = ps.filterMap (fun i => big[i]?)) : ∀ w ∈ ws, w ∈ big := by
  intro w hw
  rw [hp] at hw
  obtain ⟨i, -, hi⟩ := List.mem_filterMap.mp hw
  first | exact List.mem_of_getElem? hi | exact List.getElem?_mem hi
set_option maxRecDepth 20000 in
theorem wsL_law0_r1_m : ∀ w ∈ wsL_law0_r1, w ∈ lw_tbl := memIn_r wsL_law0_r1 [48, 49, 34, 629, 630, 39, 83, 846, 50, 51, 52, 53, 54, 55, 56, 57, 35, 176, 84, 85, 36, 177, 132, 133] (by decide +kernel)
set_option maxRecDepth 20000 in
theorem wsL_law0_r2_m : ∀ w ∈ wsL_law0_r2, w ∈ lw_tbl := memIn_r wsL_law0_r2 [37, 178, 149, 150, 38, 179, 131, 180, 181, 59, 60, 61, 82, 62, 64, 86, 87, 88, 89, 94, 96, 98, 100, 102] (by decide +kernel)
set_option maxRecDepth 20000 in
theorem wsL_law0_r3_m : ∀ w ∈ wsL_law0_r3, w ∈ lw_tbl := memIn_r wsL_law0_r3 [104, 106, 108, 110, 90, 91, 92, 93, 135, 136, 137, 138, 140, 142, 152, 153, 154, 155, 157, 159, 161, 631, 632, 633] (by decide +kernel)
set_option maxRecDepth 20000 in
theorem wsL_law0_r4_m : ∀ w ∈ wsL_law0_r4, w ∈ lw_tbl := memIn_r wsL_law0_r4 [634, 637, 638, 639, 640, 642, 643, 644, 645, 646, 647, 648, 649, 650, 651, 233, 234, 33, 235, 236, 237, 238, 239, 240] (by decide +kernel)
set_option maxRecDepth 20000 in
theorem wsL_law0_r5_m : ∀ w ∈ wsL_law0_r5, w ∈ lw_tbl := memIn_r wsL_law0_r5 [245, 43, 241, 242, 243, 244, 65, 313, 196, 197, 198, 103, 101, 228, 221, 44, 222, 107, 199, 200, 201, 202, 220, 203] (by decide +kernel)
set_option maxRecDepth 20000 in
theorem wsL_law0_r6_m : ∀ w ∈ wsL_law0_r6, w ∈ lw_tbl := memIn_r wsL_law0_r6 [204, 205, 206, 67, 207, 208, 209, 210, 211, 212, 213, 66, 215, 216, 217, 218, 44, 219, 223, 224, 225, 226, 227, 229] (by decide +kernel)
set_option maxRecDepth 20000 in
theorem wsL_law0_r7_m : ∀ w ∈ wsL_law0_r7, w ∈ lw_tbl := memIn_r wsL_law0_r7 [230, 231, 232, 315, 316, 317, 318, 68, 319, 320, 321, 322, 691, 692, 693, 694, 641, 636, 695, 697, 14, 698, 699, 701] (by decide +kernel)
set_option maxRecDepth 20000 in
theorem wsL_law0_r8_m : ∀ w ∈ wsL_law0_r8, w ∈ lw_tbl := memIn_r wsL_law0_r8 [15, 702, 703, 705, 16, 706, 707, 709, 17, 710, 635, 687, 688, 689, 690, 323, 324, 325, 326, 327, 328, 329, 330, 331] (by decide +kernel)
set_option maxRecDepth 20000 in
theorem wsL_law0_r9_m : ∀ w ∈ wsL_law0_r9, w ∈ lw_tbl := memIn_r wsL_law0_r9 [333, 1, 334, 339, 45, 335, 336, 337, 338, 355, 357, 2, 358, 359, 361, 362, 363, 364, 365, 366, 367, 368, 369, 370] (by decide +kernel)
set_option maxRecDepth 20000 in
theorem wsL_law0_r10_m : ∀ w ∈ wsL_law0_r10, w ∈ lw_tbl := memIn_r wsL_law0_r10 [371, 372, 373, 163, 374, 375, 376, 377, 378, 379, 46, 380, 381, 382, 383, 711, 712, 713, 714, 715, 717, 18, 718, 719] (by decide +kernel)
set_option maxRecDepth 20000 in
theorem wsL_law0_r11_m : ∀ w ∈ wsL_law0_r11, w ∈ lw_tbl := memIn_r wsL_law0_r11 [720, 721, 384, 385, 386, 387, 388, 389, 390, 391, 392, 47, 409, 722, 723, 724, 725, 410, 411, 412, 413, 414, 415, 416] (by decide +kernel)
set_option maxRecDepth 20000 in
theorem wsL_law0_r12_m : ∀ w ∈ wsL_law0_r12, w ∈ lw_tbl := memIn_r wsL_law0_r12 [63, 726, 727, 728, 729, 417, 418, 419, 420, 421, 422, 423, 424, 425, 426, 428, 730, 731, 732, 733, 429, 430, 431, 432] (by decide +kernel)
set_option maxRecDepth 20000 in
theorem wsL_law0_r13_m : ∀ w ∈ wsL_law0_r13, w ∈ lw_tbl := memIn_r wsL_law0_r13 [433, 434, 435, 97, 436, 437, 438, 440, 442, 3, 443, 143, 141, 444, 446, 4, 447, 109, 448, 449, 450, 451, 453, 5] (by decide +kernel)
set_option maxRecDepth 20000 in
theorem wsL_law0_r14_m : ∀ w ∈ wsL_law0_r14, w ∈ lw_tbl := memIn_r wsL_law0_r14 [454, 99, 105, 455, 456, 457, 458, 734, 735, 736, 737, 738, 740, 19, 741, 742, 743, 744, 745, 747, 20, 748, 749, 751] (by decide +kernel)
set_option maxRecDepth 20000 in
theorem wsL_law0_r15_m : ∀ w ∈ wsL_law0_r15, w ∈ lw_tbl := memIn_r wsL_law0_r15 [21, 752, 753, 755, 22, 756, 757, 759, 23, 760, 459, 460, 461, 462, 463, 464, 465, 164, 156, 160, 162, 158, 761, 762] (by decide +kernel)
set_option maxRecDepth 20000 in
theorem wsL_law0_r16_m : ∀ w ∈ wsL_law0_r16, w ∈ lw_tbl := memIn_r wsL_law0_r16 [763, 764, 466, 467, 468, 469, 470, 471, 472, 526, 473, 474, 475, 477, 479, 6, 480, 95, 481, 482, 483, 484, 485, 487] (by decide +kernel)
set_option maxRecDepth 20000 in
theorem wsL_law0_r17_m : ∀ w ∈ wsL_law0_r17, w ∈ lw_tbl := memIn_r wsL_law0_r17 [489, 7, 490, 491, 492, 493, 494, 495, 496, 497, 498, 499, 500, 501, 503, 505, 8, 506, 111, 507, 508, 509, 510, 511] (by decide +kernel)
set_option maxRecDepth 20000 in
theorem wsL_law0_r18_m : ∀ w ∈ wsL_law0_r18, w ∈ lw_tbl := memIn_r wsL_law0_r18 [513, 9, 514, 515, 516, 517, 518, 519, 520, 521, 522, 523, 524, 525, 765, 766, 767, 768, 789, 769, 771, 24, 772, 773] (by decide +kernel)
set_option maxRecDepth 20000 in
theorem wsL_law0_r19_m : ∀ w ∈ wsL_law0_r19, w ∈ lw_tbl := memIn_r wsL_law0_r19 [775, 25, 776, 777, 779, 26, 780, 781, 783, 27, 784, 785, 787, 28, 788, 527, 528, 529, 530, 531, 532, 533, 790, 791] (by decide +kernel)
set_option maxRecDepth 20000 in
theorem wsL_law0_r20_m : ∀ w ∈ wsL_law0_r20, w ∈ lw_tbl := memIn_r wsL_law0_r20 [792, 793, 534, 535, 536, 537, 538, 539, 540, 541, 542, 543, 545, 546, 547, 548, 549, 551, 10, 552, 553, 554, 555, 556] (by decide +kernel)
set_option maxRecDepth 20000 in
theorem wsL_law0_r21_m : ∀ w ∈ wsL_law0_r21, w ∈ lw_tbl := memIn_r wsL_law0_r21 [557, 558, 559, 561, 11, 562, 563, 564, 565, 566, 567, 568, 569, 570, 571, 572, 574, 12, 575, 576, 577, 578, 579, 580] (by decide +kernel)
set_option maxRecDepth 20000 in
theorem wsL_law0_r22_m : ∀ w ∈ wsL_law0_r22, w ∈ lw_tbl := memIn_r wsL_law0_r22 [582, 13, 583, 794, 795, 796, 797, 798, 799, 800, 801, 803, 29, 804, 805, 807, 30, 808, 809, 811, 31, 812, 813, 815] (by decide +kernel)
set_option maxRecDepth 20000 in
theorem wsL_law0_r23_m : ∀ w ∈ wsL_law0_r23, w ∈ lw_tbl := memIn_r wsL_law0_r23 [32, 816, 584, 585, 586, 587, 588, 589, 590, 817, 818, 819, 820, 592, 593, 594, 595, 596, 597, 598, 821, 822, 823, 824] (by decide +kernel)
set_option maxRecDepth 20000 in
theorem wsL_law0_r24_m : ∀ w ∈ wsL_law0_r24, w ∈ lw_tbl := memIn_r wsL_law0_r24 [599, 600, 601, 602, 825, 826, 827, 828, 603, 604, 605, 606, 607, 608, 609, 610, 611, 612, 829, 830, 831, 832, 614, 615] (by decide +kernel)
set_option maxRecDepth 20000 in
theorem wsL_law0_r25_m : ∀ w ∈ wsL_law0_r25, w ∈ lw_tbl := memIn_r wsL_law0_r25 [616, 617, 618, 619, 620, 833, 834, 835, 836, 621, 622, 623, 624, 625, 626, 627, 628, 837, 838, 839, 840, 841, 195, 842] (by decide +kernel)
set_option maxRecDepth 20000 in
theorem wsL_law0_r26_m : ∀ w ∈ wsL_law0_r26, w ∈ lw_tbl := memIn_r wsL_law0_r26 [843, 844, 845] (by decide +kernel)
set_option maxRecDepth 20000 in
theorem wsX40_m : ∀ w ∈ wsX40, w ∈ lw_tbl := by decide +kernel
set_option maxRecDepth 20000 in
theorem wsX50_m : ∀ w ∈ wsX50, w ∈ lw_tbl := by decide +kernel
set_option maxRecDepth 20000 in
theorem wsX30_m : ∀ w ∈ wsX30, w ∈ lw_tbl := by decide +kernel
set_option maxRecDepth 20000 in
theorem wsX10_m : ∀ w ∈ wsX10, w ∈ lw_tbl := by decide +kernel
set_option maxRecDepth 20000 in
theorem wsX00_m : ∀ w ∈ wsX00, w ∈ lw_tbl := by decide +kernel
set_option maxRecDepth 20000 in
theorem wsX20_m : ∀ w ∈ wsX20, w ∈ lw_tbl := by decide +kernel
theorem wsL_law_in0 : ∀ w ∈ wsL_law0, w ∈ lw_tbl := List.forall_mem_append.mpr ⟨List.forall_mem_append.mpr ⟨List.forall_mem_append.mpr ⟨List.forall_mem_append.mpr ⟨List.forall_mem_append.mpr ⟨List.forall_mem_append.mpr ⟨List.forall_mem_append.mpr ⟨List.forall_mem_append.mpr ⟨wsL_law0_r1_m, List.forall_mem_append.mpr ⟨wsL_law0_r2_m, List.forall_mem_append.mpr ⟨wsL_law0_r3_m, List.forall_mem_append.mpr ⟨wsL_law0_r4_m, List.forall_mem_append.mpr ⟨wsL_law0_r5_m, List.forall_mem_append.mpr ⟨wsL_law0_r6_m, List.forall_mem_append.mpr ⟨wsL_law0_r7_m, List.forall_mem_append.mpr ⟨wsL_law0_r8_m, List.forall_mem_append.mpr ⟨wsL_law0_r9_m, List.forall_mem_append.mpr ⟨wsL_law0_r10_m, List.forall_mem_append.mpr ⟨wsL_law0_r11_m, List.forall_mem_append.mpr ⟨wsL_law0_r12_m, List.forall_mem_append.mpr ⟨wsL_law0_r13_m, List.forall_mem_append.mpr ⟨wsL_law0_r14_m, List.forall_mem_append.mpr ⟨wsL_law0_r15_m, List.forall_mem_append.mpr ⟨wsL_law0_r16_m, List.forall_mem_append.mpr ⟨wsL_law0_r17_m, List.forall_mem_append.mpr ⟨wsL_law0_r18_m, List.forall_mem_append.mpr ⟨wsL_law0_r19_m, List.forall_mem_append.mpr ⟨wsL_law0_r20_m, List.forall_mem_append.mpr ⟨wsL_law0_r21_m, List.forall_mem_append.mpr ⟨wsL_law0_r22_m, List.forall_mem_append.mpr ⟨wsL_law0_r23_m, List.forall_mem_append.mpr ⟨wsL_law0_r24_m, List.forall_mem_append.mpr ⟨wsL_law0_r25_m, wsL_law0_r26_m⟩⟩⟩⟩⟩⟩⟩⟩⟩⟩⟩⟩⟩⟩⟩⟩⟩⟩⟩⟩⟩⟩⟩⟩⟩, wsX40_m⟩, wsX50_m⟩, wsX30_m⟩, wsX10_m⟩, wsX00_m⟩, wsX20_m⟩, fun _ h => absurd h List.not_mem_nil⟩
theorem wsL_law_x0 : ∀ w ∈ (vx_atS RX4 53 "java/lang/IllegalStateException" ["java/lang/RuntimeException", "java/lang/Exception"]).filter goodWord, w ∈ lw_tbl := by decide +kernel
theorem wsL_law_x1 : ∀ w ∈ (vx_atS RX4 237 "java/lang/IndexOutOfBoundsException" ["java/lang/RuntimeException", "java/lang/Exception"]).filter goodWord, w ∈ lw_tbl := by decide +kernel
theorem wsL_law_x2 : ∀ w ∈ (vx_atS RX4 87 "java/lang/IllegalArgumentException" ["java/lang/RuntimeException", "java/lang/Exception"]).filter goodWord, w ∈ lw_tbl := by decide +kernel
theorem wsL_law_in : ∀ w ∈ wsL_law, w ∈ lw_tbl := fun w h => (List.mem_append.mp h).elim (fun h => (List.mem_append.mp h).elim (fun h => (List.mem_append.mp h).elim (fun h => wsL_law_in0 w h) (fun h => wsL_law_x0 w h)) (fun h => wsL_law_x1 w h)) (fun h => wsL_law_x2 w h)
theorem inlX0 : ∀ w ∈ wsX00, w ∈ wsL_law := fun _ h => List.mem_append_left _ (List.mem_append_left _ (List.mem_append_left _ (List.mem_append_left _ (List.mem_append_left _ (List.mem_append_right _ h)))))
theorem inX0 : ∀ w ∈ wsX00, w ∈ lw_tbl := fun w h => wsL_law_in w (inlX0 w h)
theorem inlX1 : ∀ w ∈ wsX10, w ∈ wsL_law := fun _ h => List.mem_append_left _ (List.mem_append_left _ (List.mem_append_left _ (List.mem_append_left _ (List.mem_append_left _ (List.mem_append_left _ (List.mem_append_right _ h))))))
theorem inX1 : ∀ w ∈ wsX10, w ∈ lw_tbl := fun w h => wsL_law_in w (inlX1 w h)
theorem inlX2 : ∀ w ∈ wsX20, w ∈ wsL_law := fun _ h => List.mem_append_left _ (List.mem_append_left _ (List.mem_append_left _ (List.mem_append_left _ (List.mem_append_right _ h))))
theorem inX2 : ∀ w ∈ wsX20, w ∈ lw_tbl := fun w h => wsL_law_in w (inlX2 w h)
theorem inlX3 : ∀ w ∈ wsX30, w ∈ wsL_law := fun _ h => List.mem_append_left _ (List.mem_append_left _ (List.mem_append_left _ (List.mem_append_left _ (List.mem_append_left _ (List.mem_append_left _ (List.mem_append_left _ (List.mem_append_right _ h)))))))
theorem inX3 : ∀ w ∈ wsX30, w ∈ lw_tbl := fun w h => wsL_law_in w (inlX3 w h)
theorem inlX4 : ∀ w ∈ wsX40, w ∈ wsL_law := fun _ h => List.mem_append_left _ (List.mem_append_left _ (List.mem_append_left _ (List.mem_append_left _ (List.mem_append_left _ (List.mem_append_left _ (List.mem_append_left _ (List.mem_append_left _ (List.mem_append_left _ (List.mem_append_right _ h)))))))))
theorem inX4 : ∀ w ∈ wsX40, w ∈ lw_tbl := fun w h => wsL_law_in w (inlX4 w h)
theorem inlX5 : ∀ w ∈ wsX50, w ∈ wsL_law := fun _ h => List.mem_append_left _ (List.mem_append_left _ (List.mem_append_left _ (List.mem_append_left _ (List.mem_append_left _ (List.mem_append_left _ (List.mem_append_left _ (List.mem_append_left _ (List.mem_append_right _ h))))))))
theorem inX5 : ∀ w ∈ wsX50, w ∈ lw_tbl := fun w h => wsL_law_in w (inlX5 w h)
theorem inJ13 : ∀ w ∈ wsJ130, w ∈ lw_tbl := by decide +kernel
theorem inJ9 : ∀ w ∈ wsJ90, w ∈ lw_tbl := by decide +kernel
theorem inJ0 : ∀ w ∈ wsJ00, w ∈ lw_tbl := by decide +kernel
end
section
theorem dX0_init_0 : decode cX0_init 0 = .ok (.aload_n 0, 1) := by decide +kernel
theorem dX0_init_1 : decode cX0_init 1 = .ok (.invokespecial 3, 3) := by decide +kernel
theorem dX0_init_4 : decode cX0_init 4 = .ok (.aload_n 0, 1) := by decide +kernel
theorem dX0_init_5 : decode cX0_init 5 = .ok (.bipush 6, 2) := by decide +kernel
theorem dX0_init_7 : decode cX0_init 7 = .ok (.bipush 32, 2) := by decide +kernel
theorem dX0_init_9 : decode cX0_init 9 = .ok (.multianewarray 9 2, 4) := by decide +kernel
theorem dX0_init_13 : decode cX0_init 13 = .ok (.putfield 11, 3) := by decide +kernel
theorem dX0_init_16 : decode cX0_init 16 = .ok (.aload_n 0, 1) := by decide +kernel
theorem dX0_init_17 : decode cX0_init 17 = .ok (.bipush 6, 2) := by decide +kernel
theorem dX0_init_19 : decode cX0_init 19 = .ok (.newarray .int, 2) := by decide +kernel
theorem dX0_init_21 : decode cX0_init 21 = .ok (.putfield 16, 3) := by decide +kernel
theorem dX0_init_24 : decode cX0_init 24 = .ok (.return_, 1) := by decide +kernel
theorem dX0_add_0 : decode cX0_add 0 = .ok (.aload_n 0, 1) := by decide +kernel
theorem dX0_add_1 : decode cX0_add 1 = .ok (.getfield 16, 3) := by decide +kernel
theorem dX0_add_4 : decode cX0_add 4 = .ok (.iload_n 1, 1) := by decide +kernel
theorem dX0_add_5 : decode cX0_add 5 = .ok (.iaload, 1) := by decide +kernel
theorem dX0_add_6 : decode cX0_add 6 = .ok (.bipush 32, 2) := by decide +kernel
theorem dX0_add_8 : decode cX0_add 8 = .ok (.if_icmp .ge 27, 3) := by decide +kernel
theorem dX0_add_11 : decode cX0_add 11 = .ok (.aload_n 0, 1) := by decide +kernel
theorem dX0_add_12 : decode cX0_add 12 = .ok (.getfield 11, 3) := by decide +kernel
theorem dX0_add_15 : decode cX0_add 15 = .ok (.iload_n 1, 1) := by decide +kernel
theorem dX0_add_16 : decode cX0_add 16 = .ok (.aaload, 1) := by decide +kernel
theorem dX0_add_17 : decode cX0_add 17 = .ok (.aload_n 0, 1) := by decide +kernel
theorem dX0_add_18 : decode cX0_add 18 = .ok (.getfield 16, 3) := by decide +kernel
theorem dX0_add_21 : decode cX0_add 21 = .ok (.iload_n 1, 1) := by decide +kernel
theorem dX0_add_22 : decode cX0_add 22 = .ok (.iaload, 1) := by decide +kernel
theorem dX0_add_23 : decode cX0_add 23 = .ok (.iload_n 2, 1) := by decide +kernel
theorem dX0_add_24 : decode cX0_add 24 = .ok (.iastore, 1) := by decide +kernel
theorem dX0_add_25 : decode cX0_add 25 = .ok (.aload_n 0, 1) := by decide +kernel
theorem dX0_add_26 : decode cX0_add 26 = .ok (.getfield 16, 3) := by decide +kernel
theorem dX0_add_29 : decode cX0_add 29 = .ok (.iload_n 1, 1) := by decide +kernel
theorem dX0_add_30 : decode cX0_add 30 = .ok (.dup2, 1) := by decide +kernel
theorem dX0_add_31 : decode cX0_add 31 = .ok (.iaload, 1) := by decide +kernel
theorem dX0_add_32 : decode cX0_add 32 = .ok (.iconst 1, 1) := by decide +kernel
theorem dX0_add_33 : decode cX0_add 33 = .ok (.iadd, 1) := by decide +kernel
theorem dX0_add_34 : decode cX0_add 34 = .ok (.iastore, 1) := by decide +kernel
theorem dX0_add_35 : decode cX0_add 35 = .ok (.return_, 1) := by decide +kernel
theorem dX0_move_0 : decode cX0_move 0 = .ok (.iconst 0, 1) := by decide +kernel
theorem dX0_move_1 : decode cX0_move 1 = .ok (.istore 4, 2) := by decide +kernel
theorem dX0_move_3 : decode cX0_move 3 = .ok (.iconst 0, 1) := by decide +kernel
theorem dX0_move_4 : decode cX0_move 4 = .ok (.istore 5, 2) := by decide +kernel
theorem dX0_move_6 : decode cX0_move 6 = .ok (.iload 5, 2) := by decide +kernel
theorem dX0_move_8 : decode cX0_move 8 = .ok (.aload_n 0, 1) := by decide +kernel
theorem dX0_move_9 : decode cX0_move 9 = .ok (.getfield 16, 3) := by decide +kernel
theorem dX0_move_12 : decode cX0_move 12 = .ok (.iload_n 1, 1) := by decide +kernel
theorem dX0_move_13 : decode cX0_move 13 = .ok (.iaload, 1) := by decide +kernel
theorem dX0_move_14 : decode cX0_move 14 = .ok (.if_icmp .ge 57, 3) := by decide +kernel
theorem dX0_move_17 : decode cX0_move 17 = .ok (.aload_n 0, 1) := by decide +kernel
theorem dX0_move_18 : decode cX0_move 18 = .ok (.getfield 11, 3) := by decide +kernel
theorem dX0_move_21 : decode cX0_move 21 = .ok (.iload_n 1, 1) := by decide +kernel
theorem dX0_move_22 : decode cX0_move 22 = .ok (.aaload, 1) := by decide +kernel
theorem dX0_move_23 : decode cX0_move 23 = .ok (.iload 5, 2) := by decide +kernel
theorem dX0_move_25 : decode cX0_move 25 = .ok (.iaload, 1) := by decide +kernel
theorem dX0_move_26 : decode cX0_move 26 = .ok (.iload_n 2, 1) := by decide +kernel
theorem dX0_move_27 : decode cX0_move 27 = .ok (.if_icmp .ne 7, 3) := by decide +kernel
theorem dX0_move_30 : decode cX0_move 30 = .ok (.iload_n 3, 1) := by decide +kernel
theorem dX0_move_31 : decode cX0_move 31 = .ok (.goto 12, 3) := by decide +kernel
theorem dX0_move_34 : decode cX0_move 34 = .ok (.aload_n 0, 1) := by decide +kernel
theorem dX0_move_35 : decode cX0_move 35 = .ok (.getfield 11, 3) := by decide +kernel
theorem dX0_move_38 : decode cX0_move 38 = .ok (.iload_n 1, 1) := by decide +kernel
theorem dX0_move_39 : decode cX0_move 39 = .ok (.aaload, 1) := by decide +kernel
theorem dX0_move_40 : decode cX0_move 40 = .ok (.iload 5, 2) := by decide +kernel
theorem dX0_move_42 : decode cX0_move 42 = .ok (.iaload, 1) := by decide +kernel
theorem dX0_move_43 : decode cX0_move 43 = .ok (.istore 6, 2) := by decide +kernel
theorem dX0_move_45 : decode cX0_move 45 = .ok (.iload 6, 2) := by decide +kernel
theorem dX0_move_47 : decode cX0_move 47 = .ok (.iconst (-1), 1) := by decide +kernel
theorem dX0_move_48 : decode cX0_move 48 = .ok (.if_icmp .eq 17, 3) := by decide +kernel
theorem dX0_move_51 : decode cX0_move 51 = .ok (.aload_n 0, 1) := by decide +kernel
theorem dX0_move_52 : decode cX0_move 52 = .ok (.getfield 11, 3) := by decide +kernel
theorem dX0_move_55 : decode cX0_move 55 = .ok (.iload_n 1, 1) := by decide +kernel
theorem dX0_move_56 : decode cX0_move 56 = .ok (.aaload, 1) := by decide +kernel
theorem dX0_move_57 : decode cX0_move 57 = .ok (.iload 4, 2) := by decide +kernel
theorem dX0_move_59 : decode cX0_move 59 = .ok (.iload 6, 2) := by decide +kernel
theorem dX0_move_61 : decode cX0_move 61 = .ok (.iastore, 1) := by decide +kernel
theorem dX0_move_62 : decode cX0_move 62 = .ok (.iinc 4 1, 3) := by decide +kernel
theorem dX0_move_65 : decode cX0_move 65 = .ok (.iinc 5 1, 3) := by decide +kernel
theorem dX0_move_68 : decode cX0_move 68 = .ok (.goto (-62), 3) := by decide +kernel
theorem dX0_move_71 : decode cX0_move 71 = .ok (.aload_n 0, 1) := by decide +kernel
theorem dX0_move_72 : decode cX0_move 72 = .ok (.getfield 16, 3) := by decide +kernel
theorem dX0_move_75 : decode cX0_move 75 = .ok (.iload_n 1, 1) := by decide +kernel
theorem dX0_move_76 : decode cX0_move 76 = .ok (.iload 4, 2) := by decide +kernel
theorem dX0_move_78 : decode cX0_move 78 = .ok (.iastore, 1) := by decide +kernel
theorem dX0_move_79 : decode cX0_move 79 = .ok (.return_, 1) := by decide +kernel
set_option maxRecDepth 20000 in
theorem ggX1_init_X1_empty : GoodIn wsX1_init wsX1_empty := goodIn_r _ [19, 5, 7, 10, 11, 13, 14, 20, 21, 22, 23, 24, 25, 26, 27, 28] (by decide +kernel) (by decide +kernel)
set_option maxRecDepth 20000 in
theorem gX1_init_X1_empty : GoodIn wsX1_init (wsV RX1 40 RX1 yX1_empty wsX1_empty) := goodIn_app (goodIn_of _ (by decide +kernel)) ggX1_init_X1_empty
theorem dX1_init_0 : decode cX1_init 0 = .ok (.aload_n 0, 1) := by decide +kernel
theorem dX1_init_1 : decode cX1_init 1 = .ok (.invokespecial 3, 3) := by decide +kernel
theorem dX1_init_4 : decode cX1_init 4 = .ok (.aload_n 0, 1) := by decide +kernel
theorem dX1_init_5 : decode cX1_init 5 = .ok (.bipush 32, 2) := by decide +kernel
theorem dX1_init_7 : decode cX1_init 7 = .ok (.newarray .int, 2) := by decide +kernel
theorem dX1_init_9 : decode cX1_init 9 = .ok (.putfield 9, 3) := by decide +kernel
theorem dX1_init_12 : decode cX1_init 12 = .ok (.aload_n 0, 1) := by decide +kernel
theorem dX1_init_13 : decode cX1_init 13 = .ok (.bipush 32, 2) := by decide +kernel
theorem dX1_init_15 : decode cX1_init 15 = .ok (.newarray .int, 2) := by decide +kernel
theorem dX1_init_17 : decode cX1_init 17 = .ok (.putfield 15, 3) := by decide +kernel
theorem dX1_init_20 : decode cX1_init 20 = .ok (.aload_n 0, 1) := by decide +kernel
theorem dX1_init_21 : decode cX1_init 21 = .ok (.bipush 32, 2) := by decide +kernel
theorem dX1_init_23 : decode cX1_init 23 = .ok (.newarray .int, 2) := by decide +kernel
theorem dX1_init_25 : decode cX1_init 25 = .ok (.putfield 18, 3) := by decide +kernel
theorem dX1_init_28 : decode cX1_init 28 = .ok (.aload_n 0, 1) := by decide +kernel
theorem dX1_init_29 : decode cX1_init 29 = .ok (.bipush 32, 2) := by decide +kernel
theorem dX1_init_31 : decode cX1_init 31 = .ok (.newarray .int, 2) := by decide +kernel
theorem dX1_init_33 : decode cX1_init 33 = .ok (.putfield 21, 3) := by decide +kernel
theorem dX1_init_36 : decode cX1_init 36 = .ok (.aload_n 0, 1) := by decide +kernel
theorem dX1_init_37 : decode cX1_init 37 = .ok (.bipush 32, 2) := by decide +kernel
theorem dX1_init_39 : decode cX1_init 39 = .ok (.newarray .boolean, 2) := by decide +kernel
theorem dX1_init_41 : decode cX1_init 41 = .ok (.putfield 24, 3) := by decide +kernel
theorem dX1_init_44 : decode cX1_init 44 = .ok (.aload_n 0, 1) := by decide +kernel
theorem dX1_init_45 : decode cX1_init 45 = .ok (.bipush 32, 2) := by decide +kernel
theorem dX1_init_47 : decode cX1_init 47 = .ok (.newarray .int, 2) := by decide +kernel
theorem dX1_init_49 : decode cX1_init 49 = .ok (.putfield 28, 3) := by decide +kernel
theorem dX1_init_52 : decode cX1_init 52 = .ok (.aload_n 0, 1) := by decide +kernel
theorem dX1_init_53 : decode cX1_init 53 = .ok (.bipush 32, 2) := by decide +kernel
theorem dX1_init_55 : decode cX1_init 55 = .ok (.newarray .int, 2) := by decide +kernel
theorem dX1_init_57 : decode cX1_init 57 = .ok (.putfield 31, 3) := by decide +kernel
theorem dX1_init_60 : decode cX1_init 60 = .ok (.aload_n 0, 1) := by decide +kernel
theorem dX1_init_61 : decode cX1_init 61 = .ok (.bipush 32, 2) := by decide +kernel
theorem dX1_init_63 : decode cX1_init 63 = .ok (.newarray .int, 2) := by decide +kernel
theorem dX1_init_65 : decode cX1_init 65 = .ok (.putfield 34, 3) := by decide +kernel
theorem dX1_init_68 : decode cX1_init 68 = .ok (.aload_n 0, 1) := by decide +kernel
theorem dX1_init_69 : decode cX1_init 69 = .ok (.bipush 32, 2) := by decide +kernel
theorem dX1_init_71 : decode cX1_init 71 = .ok (.newarray .int, 2) := by decide +kernel
theorem dX1_init_73 : decode cX1_init 73 = .ok (.putfield 37, 3) := by decide +kernel
theorem dX1_init_76 : decode cX1_init 76 = .ok (.iconst 0, 1) := by decide +kernel
theorem dX1_init_77 : decode cX1_init 77 = .ok (.istore_n 1, 1) := by decide +kernel
theorem dX1_init_78 : decode cX1_init 78 = .ok (.iload_n 1, 1) := by decide +kernel
theorem dX1_init_79 : decode cX1_init 79 = .ok (.bipush 32, 2) := by decide +kernel
theorem dX1_init_81 : decode cX1_init 81 = .ok (.if_icmp .ge 14, 3) := by decide +kernel
theorem dX1_init_84 : decode cX1_init 84 = .ok (.aload_n 0, 1) := by decide +kernel
theorem dX1_init_85 : decode cX1_init 85 = .ok (.iload_n 1, 1) := by decide +kernel
theorem dX1_init_86 : decode cX1_init 86 = .ok (.invokevirtual 40, 3) := by decide +kernel
theorem dX1_init_89 : decode cX1_init 89 = .ok (.iinc 1 1, 3) := by decide +kernel
theorem dX1_init_92 : decode cX1_init 92 = .ok (.goto (-14), 3) := by decide +kernel
theorem dX1_init_95 : decode cX1_init 95 = .ok (.return_, 1) := by decide +kernel
theorem dX1_empty_0 : decode cX1_empty 0 = .ok (.aload_n 0, 1) := by decide +kernel
theorem dX1_empty_1 : decode cX1_empty 1 = .ok (.getfield 9, 3) := by decide +kernel
theorem dX1_empty_4 : decode cX1_empty 4 = .ok (.iload_n 1, 1) := by decide +kernel
theorem dX1_empty_5 : decode cX1_empty 5 = .ok (.iconst (-1), 1) := by decide +kernel
theorem dX1_empty_6 : decode cX1_empty 6 = .ok (.iastore, 1) := by decide +kernel
theorem dX1_empty_7 : decode cX1_empty 7 = .ok (.aload_n 0, 1) := by decide +kernel
theorem dX1_empty_8 : decode cX1_empty 8 = .ok (.getfield 18, 3) := by decide +kernel
theorem dX1_empty_11 : decode cX1_empty 11 = .ok (.iload_n 1, 1) := by decide +kernel
theorem dX1_empty_12 : decode cX1_empty 12 = .ok (.iconst (-1), 1) := by decide +kernel
theorem dX1_empty_13 : decode cX1_empty 13 = .ok (.iastore, 1) := by decide +kernel
theorem dX1_empty_14 : decode cX1_empty 14 = .ok (.aload_n 0, 1) := by decide +kernel
theorem dX1_empty_15 : decode cX1_empty 15 = .ok (.getfield 24, 3) := by decide +kernel
theorem dX1_empty_18 : decode cX1_empty 18 = .ok (.iload_n 1, 1) := by decide +kernel
theorem dX1_empty_19 : decode cX1_empty 19 = .ok (.iconst 0, 1) := by decide +kernel
theorem dX1_empty_20 : decode cX1_empty 20 = .ok (.bastore, 1) := by decide +kernel
theorem dX1_empty_21 : decode cX1_empty 21 = .ok (.aload_n 0, 1) := by decide +kernel
theorem dX1_empty_22 : decode cX1_empty 22 = .ok (.getfield 28, 3) := by decide +kernel
theorem dX1_empty_25 : decode cX1_empty 25 = .ok (.iload_n 1, 1) := by decide +kernel
theorem dX1_empty_26 : decode cX1_empty 26 = .ok (.iconst (-1), 1) := by decide +kernel
theorem dX1_empty_27 : decode cX1_empty 27 = .ok (.iastore, 1) := by decide +kernel
theorem dX1_empty_28 : decode cX1_empty 28 = .ok (.aload_n 0, 1) := by decide +kernel
theorem dX1_empty_29 : decode cX1_empty 29 = .ok (.getfield 34, 3) := by decide +kernel
theorem dX1_empty_32 : decode cX1_empty 32 = .ok (.iload_n 1, 1) := by decide +kernel
theorem dX1_empty_33 : decode cX1_empty 33 = .ok (.iconst (-1), 1) := by decide +kernel
theorem dX1_empty_34 : decode cX1_empty 34 = .ok (.iastore, 1) := by decide +kernel
theorem dX1_empty_35 : decode cX1_empty 35 = .ok (.aload_n 0, 1) := by decide +kernel
theorem dX1_empty_36 : decode cX1_empty 36 = .ok (.getfield 37, 3) := by decide +kernel
theorem dX1_empty_39 : decode cX1_empty 39 = .ok (.iload_n 1, 1) := by decide +kernel
theorem dX1_empty_40 : decode cX1_empty 40 = .ok (.iconst (-1), 1) := by decide +kernel
theorem dX1_empty_41 : decode cX1_empty 41 = .ok (.iastore, 1) := by decide +kernel
theorem dX1_empty_42 : decode cX1_empty 42 = .ok (.return_, 1) := by decide +kernel
theorem dX1_isUsed_0 : decode cX1_isUsed 0 = .ok (.aload_n 0, 1) := by decide +kernel
theorem dX1_isUsed_1 : decode cX1_isUsed 1 = .ok (.getfield 9, 3) := by decide +kernel
theorem dX1_isUsed_4 : decode cX1_isUsed 4 = .ok (.iload_n 1, 1) := by decide +kernel
theorem dX1_isUsed_5 : decode cX1_isUsed 5 = .ok (.iaload, 1) := by decide +kernel
theorem dX1_isUsed_6 : decode cX1_isUsed 6 = .ok (.iconst (-1), 1) := by decide +kernel
theorem dX1_isUsed_7 : decode cX1_isUsed 7 = .ok (.if_icmp .eq 7, 3) := by decide +kernel
theorem dX1_isUsed_10 : decode cX1_isUsed 10 = .ok (.iconst 1, 1) := by decide +kernel
theorem dX1_isUsed_11 : decode cX1_isUsed 11 = .ok (.goto 4, 3) := by decide +kernel
theorem dX1_isUsed_14 : decode cX1_isUsed 14 = .ok (.iconst 0, 1) := by decide +kernel
theorem dX1_isUsed_15 : decode cX1_isUsed 15 = .ok (.ireturn, 1) := by decide +kernel
theorem dX1_hasDeath_0 : decode cX1_hasDeath 0 = .ok (.aload_n 0, 1) := by decide +kernel
theorem dX1_hasDeath_1 : decode cX1_hasDeath 1 = .ok (.getfield 28, 3) := by decide +kernel
theorem dX1_hasDeath_4 : decode cX1_hasDeath 4 = .ok (.iload_n 1, 1) := by decide +kernel
theorem dX1_hasDeath_5 : decode cX1_hasDeath 5 = .ok (.iaload, 1) := by decide +kernel
theorem dX1_hasDeath_6 : decode cX1_hasDeath 6 = .ok (.iconst (-1), 1) := by decide +kernel
theorem dX1_hasDeath_7 : decode cX1_hasDeath 7 = .ok (.if_icmp .eq 7, 3) := by decide +kernel
theorem dX1_hasDeath_10 : decode cX1_hasDeath 10 = .ok (.iconst 1, 1) := by decide +kernel
theorem dX1_hasDeath_11 : decode cX1_hasDeath 11 = .ok (.goto 4, 3) := by decide +kernel
theorem dX1_hasDeath_14 : decode cX1_hasDeath 14 = .ok (.iconst 0, 1) := by decide +kernel
theorem dX1_hasDeath_15 : decode cX1_hasDeath 15 = .ok (.ireturn, 1) := by decide +kernel
set_option maxRecDepth 20000 in
theorem ggX1_lowestFree_X1_isUsed : GoodIn wsX1_lowestFree wsX1_isUsed := goodIn_r _ [5, 6, 7, 8, 9, 10, 11, 12, 13, 14, 15] (by decide +kernel) (by decide +kernel)
set_option maxRecDepth 20000 in
theorem gX1_lowestFree_X1_isUsed : GoodIn wsX1_lowestFree (wsV RX1 44 RX1 yX1_isUsed wsX1_isUsed) := goodIn_app (goodIn_of _ (by decide +kernel)) ggX1_lowestFree_X1_isUsed
theorem dX1_lowestFree_0 : decode cX1_lowestFree 0 = .ok (.iload_n 1, 1) := by decide +kernel
theorem dX1_lowestFree_1 : decode cX1_lowestFree 1 = .ok (.istore_n 3, 1) := by decide +kernel
theorem dX1_lowestFree_2 : decode cX1_lowestFree 2 = .ok (.iload_n 3, 1) := by decide +kernel
theorem dX1_lowestFree_3 : decode cX1_lowestFree 3 = .ok (.iload_n 1, 1) := by decide +kernel
theorem dX1_lowestFree_4 : decode cX1_lowestFree 4 = .ok (.iload_n 2, 1) := by decide +kernel
theorem dX1_lowestFree_5 : decode cX1_lowestFree 5 = .ok (.iadd, 1) := by decide +kernel
theorem dX1_lowestFree_6 : decode cX1_lowestFree 6 = .ok (.if_icmp .ge 19, 3) := by decide +kernel
theorem dX1_lowestFree_9 : decode cX1_lowestFree 9 = .ok (.aload_n 0, 1) := by decide +kernel
theorem dX1_lowestFree_10 : decode cX1_lowestFree 10 = .ok (.iload_n 3, 1) := by decide +kernel
theorem dX1_lowestFree_11 : decode cX1_lowestFree 11 = .ok (.invokevirtual 44, 3) := by decide +kernel
theorem dX1_lowestFree_14 : decode cX1_lowestFree 14 = .ok (.ifCond .ne 5, 3) := by decide +kernel
theorem dX1_lowestFree_17 : decode cX1_lowestFree 17 = .ok (.iload_n 3, 1) := by decide +kernel
theorem dX1_lowestFree_18 : decode cX1_lowestFree 18 = .ok (.ireturn, 1) := by decide +kernel
theorem dX1_lowestFree_19 : decode cX1_lowestFree 19 = .ok (.iinc 3 1, 3) := by decide +kernel
theorem dX1_lowestFree_22 : decode cX1_lowestFree 22 = .ok (.goto (-20), 3) := by decide +kernel
theorem dX1_lowestFree_25 : decode cX1_lowestFree 25 = .ok (.iconst (-1), 1) := by decide +kernel
theorem dX1_lowestFree_26 : decode cX1_lowestFree 26 = .ok (.ireturn, 1) := by decide +kernel
theorem dX1_takeOffDeaths_0 : decode cX1_takeOffDeaths 0 = .ok (.iconst 0, 1) := by decide +kernel
theorem dX1_takeOffDeaths_1 : decode cX1_takeOffDeaths 1 = .ok (.istore_n 2, 1) := by decide +kernel
theorem dX1_takeOffDeaths_2 : decode cX1_takeOffDeaths 2 = .ok (.iload_n 2, 1) := by decide +kernel
theorem dX1_takeOffDeaths_3 : decode cX1_takeOffDeaths 3 = .ok (.bipush 32, 2) := by decide +kernel
theorem dX1_takeOffDeaths_5 : decode cX1_takeOffDeaths 5 = .ok (.if_icmp .ge 26, 3) := by decide +kernel
theorem dX1_takeOffDeaths_8 : decode cX1_takeOffDeaths 8 = .ok (.aload_n 0, 1) := by decide +kernel
theorem dX1_takeOffDeaths_9 : decode cX1_takeOffDeaths 9 = .ok (.getfield 28, 3) := by decide +kernel
theorem dX1_takeOffDeaths_12 : decode cX1_takeOffDeaths 12 = .ok (.iload_n 2, 1) := by decide +kernel
theorem dX1_takeOffDeaths_13 : decode cX1_takeOffDeaths 13 = .ok (.iaload, 1) := by decide +kernel
theorem dX1_takeOffDeaths_14 : decode cX1_takeOffDeaths 14 = .ok (.iload_n 1, 1) := by decide +kernel
theorem dX1_takeOffDeaths_15 : decode cX1_takeOffDeaths 15 = .ok (.if_icmp .ne 10, 3) := by decide +kernel
theorem dX1_takeOffDeaths_18 : decode cX1_takeOffDeaths 18 = .ok (.aload_n 0, 1) := by decide +kernel
theorem dX1_takeOffDeaths_19 : decode cX1_takeOffDeaths 19 = .ok (.getfield 28, 3) := by decide +kernel
theorem dX1_takeOffDeaths_22 : decode cX1_takeOffDeaths 22 = .ok (.iload_n 2, 1) := by decide +kernel
theorem dX1_takeOffDeaths_23 : decode cX1_takeOffDeaths 23 = .ok (.iconst (-1), 1) := by decide +kernel
theorem dX1_takeOffDeaths_24 : decode cX1_takeOffDeaths 24 = .ok (.iastore, 1) := by decide +kernel
theorem dX1_takeOffDeaths_25 : decode cX1_takeOffDeaths 25 = .ok (.iinc 2 1, 3) := by decide +kernel
theorem dX1_takeOffDeaths_28 : decode cX1_takeOffDeaths 28 = .ok (.goto (-26), 3) := by decide +kernel
theorem dX1_takeOffDeaths_31 : decode cX1_takeOffDeaths 31 = .ok (.return_, 1) := by decide +kernel
theorem dX1_bypass_0 : decode cX1_bypass 0 = .ok (.iconst 0, 1) := by decide +kernel
theorem dX1_bypass_1 : decode cX1_bypass 1 = .ok (.istore_n 3, 1) := by decide +kernel
theorem dX1_bypass_2 : decode cX1_bypass 2 = .ok (.iload_n 3, 1) := by decide +kernel
theorem dX1_bypass_3 : decode cX1_bypass 3 = .ok (.bipush 32, 2) := by decide +kernel
theorem dX1_bypass_5 : decode cX1_bypass 5 = .ok (.if_icmp .ge 26, 3) := by decide +kernel
theorem dX1_bypass_8 : decode cX1_bypass 8 = .ok (.aload_n 0, 1) := by decide +kernel
theorem dX1_bypass_9 : decode cX1_bypass 9 = .ok (.getfield 34, 3) := by decide +kernel
theorem dX1_bypass_12 : decode cX1_bypass 12 = .ok (.iload_n 3, 1) := by decide +kernel
theorem dX1_bypass_13 : decode cX1_bypass 13 = .ok (.iaload, 1) := by decide +kernel
theorem dX1_bypass_14 : decode cX1_bypass 14 = .ok (.iload_n 1, 1) := by decide +kernel
theorem dX1_bypass_15 : decode cX1_bypass 15 = .ok (.if_icmp .ne 10, 3) := by decide +kernel
theorem dX1_bypass_18 : decode cX1_bypass 18 = .ok (.aload_n 0, 1) := by decide +kernel
theorem dX1_bypass_19 : decode cX1_bypass 19 = .ok (.getfield 34, 3) := by decide +kernel
theorem dX1_bypass_22 : decode cX1_bypass 22 = .ok (.iload_n 3, 1) := by decide +kernel
theorem dX1_bypass_23 : decode cX1_bypass 23 = .ok (.iload_n 2, 1) := by decide +kernel
theorem dX1_bypass_24 : decode cX1_bypass 24 = .ok (.iastore, 1) := by decide +kernel
theorem dX1_bypass_25 : decode cX1_bypass 25 = .ok (.iinc 3 1, 3) := by decide +kernel
theorem dX1_bypass_28 : decode cX1_bypass 28 = .ok (.goto (-26), 3) := by decide +kernel
theorem dX1_bypass_31 : decode cX1_bypass 31 = .ok (.return_, 1) := by decide +kernel
theorem dX2_init_0 : decode cX2_init 0 = .ok (.aload_n 0, 1) := by decide +kernel
theorem dX2_init_1 : decode cX2_init 1 = .ok (.invokespecial 3, 3) := by decide +kernel
theorem dX2_init_4 : decode cX2_init 4 = .ok (.aload_n 0, 1) := by decide +kernel
theorem dX2_init_5 : decode cX2_init 5 = .ok (.sipush 512, 3) := by decide +kernel
theorem dX2_init_8 : decode cX2_init 8 = .ok (.newarray .int, 2) := by decide +kernel
theorem dX2_init_10 : decode cX2_init 10 = .ok (.putfield 9, 3) := by decide +kernel
theorem dX2_init_13 : decode cX2_init 13 = .ok (.aload_n 0, 1) := by decide +kernel
theorem dX2_init_14 : decode cX2_init 14 = .ok (.sipush 512, 3) := by decide +kernel
theorem dX2_init_17 : decode cX2_init 17 = .ok (.newarray .int, 2) := by decide +kernel
theorem dX2_init_19 : decode cX2_init 19 = .ok (.putfield 15, 3) := by decide +kernel
theorem dX2_init_22 : decode cX2_init 22 = .ok (.aload_n 0, 1) := by decide +kernel
theorem dX2_init_23 : decode cX2_init 23 = .ok (.sipush 512, 3) := by decide +kernel
theorem dX2_init_26 : decode cX2_init 26 = .ok (.newarray .int, 2) := by decide +kernel
theorem dX2_init_28 : decode cX2_init 28 = .ok (.putfield 18, 3) := by decide +kernel
theorem dX2_init_31 : decode cX2_init 31 = .ok (.aload_n 0, 1) := by decide +kernel
theorem dX2_init_32 : decode cX2_init 32 = .ok (.sipush 512, 3) := by decide +kernel
theorem dX2_init_35 : decode cX2_init 35 = .ok (.newarray .int, 2) := by decide +kernel
theorem dX2_init_37 : decode cX2_init 37 = .ok (.putfield 21, 3) := by decide +kernel
theorem dX2_init_40 : decode cX2_init 40 = .ok (.return_, 1) := by decide +kernel
theorem dX2_add_0 : decode cX2_add 0 = .ok (.aload_n 0, 1) := by decide +kernel
theorem dX2_add_1 : decode cX2_add 1 = .ok (.getfield 24, 3) := by decide +kernel
theorem dX2_add_4 : decode cX2_add 4 = .ok (.sipush 512, 3) := by decide +kernel
theorem dX2_add_7 : decode cX2_add 7 = .ok (.if_icmp .lt 5, 3) := by decide +kernel
theorem dX2_add_10 : decode cX2_add 10 = .ok (.iconst (-1), 1) := by decide +kernel
theorem dX2_add_11 : decode cX2_add 11 = .ok (.ireturn, 1) := by decide +kernel
theorem dX2_add_12 : decode cX2_add 12 = .ok (.aload_n 0, 1) := by decide +kernel
theorem dX2_add_13 : decode cX2_add 13 = .ok (.getfield 24, 3) := by decide +kernel
theorem dX2_add_16 : decode cX2_add 16 = .ok (.istore 4, 2) := by decide +kernel
theorem dX2_add_18 : decode cX2_add 18 = .ok (.aload_n 0, 1) := by decide +kernel
theorem dX2_add_19 : decode cX2_add 19 = .ok (.getfield 9, 3) := by decide +kernel
theorem dX2_add_22 : decode cX2_add 22 = .ok (.iload 4, 2) := by decide +kernel
theorem dX2_add_24 : decode cX2_add 24 = .ok (.iload_n 1, 1) := by decide +kernel
theorem dX2_add_25 : decode cX2_add 25 = .ok (.iastore, 1) := by decide +kernel
theorem dX2_add_26 : decode cX2_add 26 = .ok (.aload_n 0, 1) := by decide +kernel
theorem dX2_add_27 : decode cX2_add 27 = .ok (.getfield 15, 3) := by decide +kernel
theorem dX2_add_30 : decode cX2_add 30 = .ok (.iload 4, 2) := by decide +kernel
theorem dX2_add_32 : decode cX2_add 32 = .ok (.iload_n 2, 1) := by decide +kernel
theorem dX2_add_33 : decode cX2_add 33 = .ok (.iastore, 1) := by decide +kernel
theorem dX2_add_34 : decode cX2_add 34 = .ok (.aload_n 0, 1) := by decide +kernel
theorem dX2_add_35 : decode cX2_add 35 = .ok (.getfield 18, 3) := by decide +kernel
theorem dX2_add_38 : decode cX2_add 38 = .ok (.iload 4, 2) := by decide +kernel
theorem dX2_add_40 : decode cX2_add 40 = .ok (.iload_n 3, 1) := by decide +kernel
theorem dX2_add_41 : decode cX2_add 41 = .ok (.iastore, 1) := by decide +kernel
theorem dX2_add_42 : decode cX2_add 42 = .ok (.aload_n 0, 1) := by decide +kernel
theorem dX2_add_43 : decode cX2_add 43 = .ok (.getfield 21, 3) := by decide +kernel
theorem dX2_add_46 : decode cX2_add 46 = .ok (.iload 4, 2) := by decide +kernel
theorem dX2_add_48 : decode cX2_add 48 = .ok (.iconst (-1), 1) := by decide +kernel
theorem dX2_add_49 : decode cX2_add 49 = .ok (.iastore, 1) := by decide +kernel
theorem dX2_add_50 : decode cX2_add 50 = .ok (.aload_n 0, 1) := by decide +kernel
theorem dX2_add_51 : decode cX2_add 51 = .ok (.dup, 1) := by decide +kernel
theorem dX2_add_52 : decode cX2_add 52 = .ok (.getfield 24, 3) := by decide +kernel
theorem dX2_add_55 : decode cX2_add 55 = .ok (.iconst 1, 1) := by decide +kernel
theorem dX2_add_56 : decode cX2_add 56 = .ok (.iadd, 1) := by decide +kernel
theorem dX2_add_57 : decode cX2_add 57 = .ok (.putfield 24, 3) := by decide +kernel
theorem dX2_add_60 : decode cX2_add 60 = .ok (.iload 4, 2) := by decide +kernel
theorem dX2_add_62 : decode cX2_add 62 = .ok (.ireturn, 1) := by decide +kernel
theorem dX2_putDeath_0 : decode cX2_putDeath 0 = .ok (.iload_n 1, 1) := by decide +kernel
theorem dX2_putDeath_1 : decode cX2_putDeath 1 = .ok (.ifCond .lt 18, 3) := by decide +kernel
theorem dX2_putDeath_4 : decode cX2_putDeath 4 = .ok (.iload_n 1, 1) := by decide +kernel
theorem dX2_putDeath_5 : decode cX2_putDeath 5 = .ok (.aload_n 0, 1) := by decide +kernel
theorem dX2_putDeath_6 : decode cX2_putDeath 6 = .ok (.getfield 24, 3) := by decide +kernel
theorem dX2_putDeath_9 : decode cX2_putDeath 9 = .ok (.if_icmp .ge 10, 3) := by decide +kernel
theorem dX2_putDeath_12 : decode cX2_putDeath 12 = .ok (.aload_n 0, 1) := by decide +kernel
theorem dX2_putDeath_13 : decode cX2_putDeath 13 = .ok (.getfield 21, 3) := by decide +kernel
theorem dX2_putDeath_16 : decode cX2_putDeath 16 = .ok (.iload_n 1, 1) := by decide +kernel
theorem dX2_putDeath_17 : decode cX2_putDeath 17 = .ok (.iload_n 2, 1) := by decide +kernel
theorem dX2_putDeath_18 : decode cX2_putDeath 18 = .ok (.iastore, 1) := by decide +kernel
theorem dX2_putDeath_19 : decode cX2_putDeath 19 = .ok (.return_, 1) := by decide +kernel
theorem dX2_takeOffDeaths_0 : decode cX2_takeOffDeaths 0 = .ok (.iconst 0, 1) := by decide +kernel
theorem dX2_takeOffDeaths_1 : decode cX2_takeOffDeaths 1 = .ok (.istore_n 2, 1) := by decide +kernel
theorem dX2_takeOffDeaths_2 : decode cX2_takeOffDeaths 2 = .ok (.iload_n 2, 1) := by decide +kernel
theorem dX2_takeOffDeaths_3 : decode cX2_takeOffDeaths 3 = .ok (.aload_n 0, 1) := by decide +kernel
theorem dX2_takeOffDeaths_4 : decode cX2_takeOffDeaths 4 = .ok (.getfield 24, 3) := by decide +kernel
theorem dX2_takeOffDeaths_7 : decode cX2_takeOffDeaths 7 = .ok (.if_icmp .ge 26, 3) := by decide +kernel
theorem dX2_takeOffDeaths_10 : decode cX2_takeOffDeaths 10 = .ok (.aload_n 0, 1) := by decide +kernel
theorem dX2_takeOffDeaths_11 : decode cX2_takeOffDeaths 11 = .ok (.getfield 21, 3) := by decide +kernel
theorem dX2_takeOffDeaths_14 : decode cX2_takeOffDeaths 14 = .ok (.iload_n 2, 1) := by decide +kernel
theorem dX2_takeOffDeaths_15 : decode cX2_takeOffDeaths 15 = .ok (.iaload, 1) := by decide +kernel
theorem dX2_takeOffDeaths_16 : decode cX2_takeOffDeaths 16 = .ok (.iload_n 1, 1) := by decide +kernel
theorem dX2_takeOffDeaths_17 : decode cX2_takeOffDeaths 17 = .ok (.if_icmp .ne 10, 3) := by decide +kernel
theorem dX2_takeOffDeaths_20 : decode cX2_takeOffDeaths 20 = .ok (.aload_n 0, 1) := by decide +kernel
theorem dX2_takeOffDeaths_21 : decode cX2_takeOffDeaths 21 = .ok (.getfield 21, 3) := by decide +kernel
theorem dX2_takeOffDeaths_24 : decode cX2_takeOffDeaths 24 = .ok (.iload_n 2, 1) := by decide +kernel
theorem dX2_takeOffDeaths_25 : decode cX2_takeOffDeaths 25 = .ok (.iconst (-1), 1) := by decide +kernel
theorem dX2_takeOffDeaths_26 : decode cX2_takeOffDeaths 26 = .ok (.iastore, 1) := by decide +kernel
theorem dX2_takeOffDeaths_27 : decode cX2_takeOffDeaths 27 = .ok (.iinc 2 1, 3) := by decide +kernel
theorem dX2_takeOffDeaths_30 : decode cX2_takeOffDeaths 30 = .ok (.goto (-28), 3) := by decide +kernel
theorem dX2_takeOffDeaths_33 : decode cX2_takeOffDeaths 33 = .ok (.return_, 1) := by decide +kernel
theorem dX3_init_0 : decode cX3_init 0 = .ok (.aload_n 0, 1) := by decide +kernel
theorem dX3_init_1 : decode cX3_init 1 = .ok (.invokespecial 3, 3) := by decide +kernel
theorem dX3_init_4 : decode cX3_init 4 = .ok (.aload_n 0, 1) := by decide +kernel
theorem dX3_init_5 : decode cX3_init 5 = .ok (.bipush 60, 2) := by decide +kernel
theorem dX3_init_7 : decode cX3_init 7 = .ok (.newarray .int, 2) := by decide +kernel
theorem dX3_init_9 : decode cX3_init 9 = .ok (.putfield 9, 3) := by decide +kernel
theorem dX3_init_12 : decode cX3_init 12 = .ok (.aload_n 0, 1) := by decide +kernel
theorem dX3_init_13 : decode cX3_init 13 = .ok (.bipush 60, 2) := by decide +kernel
theorem dX3_init_15 : decode cX3_init 15 = .ok (.newarray .long, 2) := by decide +kernel
theorem dX3_init_17 : decode cX3_init 17 = .ok (.putfield 15, 3) := by decide +kernel
theorem dX3_init_20 : decode cX3_init 20 = .ok (.return_, 1) := by decide +kernel
theorem dX3_has_0 : decode cX3_has 0 = .ok (.iload_n 2, 1) := by decide +kernel
theorem dX3_has_1 : decode cX3_has 1 = .ok (.ifCond .lt 23, 3) := by decide +kernel
theorem dX3_has_4 : decode cX3_has 4 = .ok (.iload_n 2, 1) := by decide +kernel
theorem dX3_has_5 : decode cX3_has 5 = .ok (.bipush 60, 2) := by decide +kernel
theorem dX3_has_7 : decode cX3_has 7 = .ok (.if_icmp .ge 17, 3) := by decide +kernel
theorem dX3_has_10 : decode cX3_has 10 = .ok (.lload_n 0, 1) := by decide +kernel
theorem dX3_has_11 : decode cX3_has 11 = .ok (.iload_n 2, 1) := by decide +kernel
theorem dX3_has_12 : decode cX3_has 12 = .ok (.lushr, 1) := by decide +kernel
theorem dX3_has_13 : decode cX3_has 13 = .ok (.lconst 1, 1) := by decide +kernel
theorem dX3_has_14 : decode cX3_has 14 = .ok (.land, 1) := by decide +kernel
theorem dX3_has_15 : decode cX3_has 15 = .ok (.lconst 0, 1) := by decide +kernel
theorem dX3_has_16 : decode cX3_has 16 = .ok (.lcmp, 1) := by decide +kernel
theorem dX3_has_17 : decode cX3_has 17 = .ok (.ifCond .eq 7, 3) := by decide +kernel
theorem dX3_has_20 : decode cX3_has 20 = .ok (.iconst 1, 1) := by decide +kernel
theorem dX3_has_21 : decode cX3_has 21 = .ok (.goto 4, 3) := by decide +kernel
theorem dX3_has_24 : decode cX3_has 24 = .ok (.iconst 0, 1) := by decide +kernel
theorem dX3_has_25 : decode cX3_has 25 = .ok (.ireturn, 1) := by decide +kernel
theorem dX3_areAllUsed_0 : decode cX3_areAllUsed 0 = .ok (.aload_n 0, 1) := by decide +kernel
theorem dX3_areAllUsed_1 : decode cX3_areAllUsed 1 = .ok (.getfield 19, 3) := by decide +kernel
theorem dX3_areAllUsed_4 : decode cX3_areAllUsed 4 = .ok (.bipush 60, 2) := by decide +kernel
theorem dX3_areAllUsed_6 : decode cX3_areAllUsed 6 = .ok (.if_icmp .lt 7, 3) := by decide +kernel
theorem dX3_areAllUsed_9 : decode cX3_areAllUsed 9 = .ok (.iconst 1, 1) := by decide +kernel
theorem dX3_areAllUsed_10 : decode cX3_areAllUsed 10 = .ok (.goto 4, 3) := by decide +kernel
theorem dX3_areAllUsed_13 : decode cX3_areAllUsed 13 = .ok (.iconst 0, 1) := by decide +kernel
theorem dX3_areAllUsed_14 : decode cX3_areAllUsed 14 = .ok (.ireturn, 1) := by decide +kernel
theorem dX3_wereBegun_0 : decode cX3_wereBegun 0 = .ok (.iload_n 1, 1) := by decide +kernel
theorem dX3_wereBegun_1 : decode cX3_wereBegun 1 = .ok (.ifCond .lt 15, 3) := by decide +kernel
theorem dX3_wereBegun_4 : decode cX3_wereBegun 4 = .ok (.iload_n 1, 1) := by decide +kernel
theorem dX3_wereBegun_5 : decode cX3_wereBegun 5 = .ok (.aload_n 0, 1) := by decide +kernel
theorem dX3_wereBegun_6 : decode cX3_wereBegun 6 = .ok (.getfield 19, 3) := by decide +kernel
theorem dX3_wereBegun_9 : decode cX3_wereBegun 9 = .ok (.if_icmp .ge 7, 3) := by decide +kernel
theorem dX3_wereBegun_12 : decode cX3_wereBegun 12 = .ok (.iconst 1, 1) := by decide +kernel
theorem dX3_wereBegun_13 : decode cX3_wereBegun 13 = .ok (.goto 4, 3) := by decide +kernel
theorem dX3_wereBegun_16 : decode cX3_wereBegun 16 = .ok (.iconst 0, 1) := by decide +kernel
theorem dX3_wereBegun_17 : decode cX3_wereBegun 17 = .ok (.ireturn, 1) := by decide +kernel
set_option maxRecDepth 20000 in
theorem ggX3_isActive_X3_has : GoodIn wsX3_isActive wsX3_has := goodIn_r _ [5] (by decide +kernel) (by decide +kernel)
set_option maxRecDepth 20000 in
theorem gX3_isActive_X3_has : GoodIn wsX3_isActive (va_wsS RX3 27 yX3_has wsX3_has) := goodIn_app (goodIn_of _ (by decide +kernel)) ggX3_isActive_X3_has
theorem dX3_isActive_0 : decode cX3_isActive 0 = .ok (.aload_n 0, 1) := by decide +kernel
theorem dX3_isActive_1 : decode cX3_isActive 1 = .ok (.getfield 23, 3) := by decide +kernel
theorem dX3_isActive_4 : decode cX3_isActive 4 = .ok (.iload_n 1, 1) := by decide +kernel
theorem dX3_isActive_5 : decode cX3_isActive 5 = .ok (.invokestatic 27, 3) := by decide +kernel
theorem dX3_isActive_8 : decode cX3_isActive 8 = .ok (.ireturn, 1) := by decide +kernel
set_option maxRecDepth 20000 in
theorem ggX3_isTakenBack_X3_wereBegun : GoodIn wsX3_isTakenBack wsX3_wereBegun := goodIn_r _ [7, 8, 12, 13, 14, 15, 16, 17] (by decide +kernel) (by decide +kernel)
set_option maxRecDepth 20000 in
theorem gX3_isTakenBack_X3_wereBegun : GoodIn wsX3_isTakenBack (wsV RX3 31 RX3 yX3_wereBegun wsX3_wereBegun) := goodIn_app (goodIn_of _ (by decide +kernel)) ggX3_isTakenBack_X3_wereBegun
set_option maxRecDepth 20000 in
theorem ggX3_isTakenBack_X3_has : GoodIn wsX3_isTakenBack wsX3_has := goodIn_r _ [11] (by decide +kernel) (by decide +kernel)
set_option maxRecDepth 20000 in
theorem gX3_isTakenBack_X3_has : GoodIn wsX3_isTakenBack (va_wsS RX3 27 yX3_has wsX3_has) := goodIn_app (goodIn_of _ (by decide +kernel)) ggX3_isTakenBack_X3_has
theorem dX3_isTakenBack_0 : decode cX3_isTakenBack 0 = .ok (.aload_n 0, 1) := by decide +kernel
theorem dX3_isTakenBack_1 : decode cX3_isTakenBack 1 = .ok (.iload_n 1, 1) := by decide +kernel
theorem dX3_isTakenBack_2 : decode cX3_isTakenBack 2 = .ok (.invokevirtual 31, 3) := by decide +kernel
theorem dX3_isTakenBack_5 : decode cX3_isTakenBack 5 = .ok (.ifCond .eq 23, 3) := by decide +kernel
theorem dX3_isTakenBack_8 : decode cX3_isTakenBack 8 = .ok (.aload_n 0, 1) := by decide +kernel
theorem dX3_isTakenBack_9 : decode cX3_isTakenBack 9 = .ok (.getfield 23, 3) := by decide +kernel
theorem dX3_isTakenBack_12 : decode cX3_isTakenBack 12 = .ok (.aload_n 0, 1) := by decide +kernel
theorem dX3_isTakenBack_13 : decode cX3_isTakenBack 13 = .ok (.getfield 35, 3) := by decide +kernel
theorem dX3_isTakenBack_16 : decode cX3_isTakenBack 16 = .ok (.lor, 1) := by decide +kernel
theorem dX3_isTakenBack_17 : decode cX3_isTakenBack 17 = .ok (.iload_n 1, 1) := by decide +kernel
theorem dX3_isTakenBack_18 : decode cX3_isTakenBack 18 = .ok (.invokestatic 27, 3) := by decide +kernel
theorem dX3_isTakenBack_21 : decode cX3_isTakenBack 21 = .ok (.ifCond .ne 7, 3) := by decide +kernel
theorem dX3_isTakenBack_24 : decode cX3_isTakenBack 24 = .ok (.iconst 1, 1) := by decide +kernel
theorem dX3_isTakenBack_25 : decode cX3_isTakenBack 25 = .ok (.goto 4, 3) := by decide +kernel
theorem dX3_isTakenBack_28 : decode cX3_isTakenBack 28 = .ok (.iconst 0, 1) := by decide +kernel
theorem dX3_isTakenBack_29 : decode cX3_isTakenBack 29 = .ok (.ireturn, 1) := by decide +kernel
set_option maxRecDepth 20000 in
theorem ggX3_start_X3_skip : GoodIn wsX3_start wsX3_skip := goodIn_r _ [11, 3, 12, 13, 14, 15, 16, 17] (by decide +kernel) (by decide +kernel)
set_option maxRecDepth 20000 in
theorem gX3_start_X3_skip : GoodIn wsX3_start (wsV RX3 41 RX3 yX3_skip wsX3_skip) := goodIn_app (goodIn_of _ (by decide +kernel)) ggX3_start_X3_skip
theorem dX3_start_0 : decode cX3_start 0 = .ok (.aload_n 0, 1) := by decide +kernel
theorem dX3_start_1 : decode cX3_start 1 = .ok (.getfield 19, 3) := by decide +kernel
theorem dX3_start_4 : decode cX3_start 4 = .ok (.istore_n 1, 1) := by decide +kernel
theorem dX3_start_5 : decode cX3_start 5 = .ok (.aload_n 0, 1) := by decide +kernel
theorem dX3_start_6 : decode cX3_start 6 = .ok (.getfield 9, 3) := by decide +kernel
theorem dX3_start_9 : decode cX3_start 9 = .ok (.iload_n 1, 1) := by decide +kernel
theorem dX3_start_10 : decode cX3_start 10 = .ok (.aload_n 0, 1) := by decide +kernel
theorem dX3_start_11 : decode cX3_start 11 = .ok (.getfield 38, 3) := by decide +kernel
theorem dX3_start_14 : decode cX3_start 14 = .ok (.iastore, 1) := by decide +kernel
theorem dX3_start_15 : decode cX3_start 15 = .ok (.aload_n 0, 1) := by decide +kernel
theorem dX3_start_16 : decode cX3_start 16 = .ok (.getfield 15, 3) := by decide +kernel
theorem dX3_start_19 : decode cX3_start 19 = .ok (.iload_n 1, 1) := by decide +kernel
theorem dX3_start_20 : decode cX3_start 20 = .ok (.aload_n 0, 1) := by decide +kernel
theorem dX3_start_21 : decode cX3_start 21 = .ok (.getfield 35, 3) := by decide +kernel
theorem dX3_start_24 : decode cX3_start 24 = .ok (.lastore, 1) := by decide +kernel
theorem dX3_start_25 : decode cX3_start 25 = .ok (.aload_n 0, 1) := by decide +kernel
theorem dX3_start_26 : decode cX3_start 26 = .ok (.dup, 1) := by decide +kernel
theorem dX3_start_27 : decode cX3_start 27 = .ok (.getfield 23, 3) := by decide +kernel
theorem dX3_start_30 : decode cX3_start 30 = .ok (.lconst 1, 1) := by decide +kernel
theorem dX3_start_31 : decode cX3_start 31 = .ok (.iload_n 1, 1) := by decide +kernel
theorem dX3_start_32 : decode cX3_start 32 = .ok (.lshl, 1) := by decide +kernel
theorem dX3_start_33 : decode cX3_start 33 = .ok (.lor, 1) := by decide +kernel
theorem dX3_start_34 : decode cX3_start 34 = .ok (.putfield 23, 3) := by decide +kernel
theorem dX3_start_37 : decode cX3_start 37 = .ok (.aload_n 0, 1) := by decide +kernel
theorem dX3_start_38 : decode cX3_start 38 = .ok (.dup, 1) := by decide +kernel
theorem dX3_start_39 : decode cX3_start 39 = .ok (.getfield 19, 3) := by decide +kernel
theorem dX3_start_42 : decode cX3_start 42 = .ok (.iconst 1, 1) := by decide +kernel
theorem dX3_start_43 : decode cX3_start 43 = .ok (.iadd, 1) := by decide +kernel
theorem dX3_start_44 : decode cX3_start 44 = .ok (.putfield 19, 3) := by decide +kernel
theorem dX3_start_47 : decode cX3_start 47 = .ok (.aload_n 0, 1) := by decide +kernel
theorem dX3_start_48 : decode cX3_start 48 = .ok (.iconst 1, 1) := by decide +kernel
theorem dX3_start_49 : decode cX3_start 49 = .ok (.invokevirtual 41, 3) := by decide +kernel
theorem dX3_start_52 : decode cX3_start 52 = .ok (.pop, 1) := by decide +kernel
theorem dX3_start_53 : decode cX3_start 53 = .ok (.iload_n 1, 1) := by decide +kernel
theorem dX3_start_54 : decode cX3_start 54 = .ok (.ireturn, 1) := by decide +kernel
theorem dX3_finish_0 : decode cX3_finish 0 = .ok (.aload_n 0, 1) := by decide +kernel
theorem dX3_finish_1 : decode cX3_finish 1 = .ok (.dup, 1) := by decide +kernel
theorem dX3_finish_2 : decode cX3_finish 2 = .ok (.getfield 23, 3) := by decide +kernel
theorem dX3_finish_5 : decode cX3_finish 5 = .ok (.lconst 1, 1) := by decide +kernel
theorem dX3_finish_6 : decode cX3_finish 6 = .ok (.iload_n 1, 1) := by decide +kernel
theorem dX3_finish_7 : decode cX3_finish 7 = .ok (.lshl, 1) := by decide +kernel
theorem dX3_finish_8 : decode cX3_finish 8 = .ok (.ldc2_w 45, 3) := by decide +kernel
theorem dX3_finish_11 : decode cX3_finish 11 = .ok (.lxor, 1) := by decide +kernel
theorem dX3_finish_12 : decode cX3_finish 12 = .ok (.land, 1) := by decide +kernel
theorem dX3_finish_13 : decode cX3_finish 13 = .ok (.putfield 23, 3) := by decide +kernel
theorem dX3_finish_16 : decode cX3_finish 16 = .ok (.iload_n 2, 1) := by decide +kernel
theorem dX3_finish_17 : decode cX3_finish 17 = .ok (.ifCond .eq 15, 3) := by decide +kernel
theorem dX3_finish_20 : decode cX3_finish 20 = .ok (.aload_n 0, 1) := by decide +kernel
theorem dX3_finish_21 : decode cX3_finish 21 = .ok (.dup, 1) := by decide +kernel
theorem dX3_finish_22 : decode cX3_finish 22 = .ok (.getfield 35, 3) := by decide +kernel
theorem dX3_finish_25 : decode cX3_finish 25 = .ok (.lconst 1, 1) := by decide +kernel
theorem dX3_finish_26 : decode cX3_finish 26 = .ok (.iload_n 1, 1) := by decide +kernel
theorem dX3_finish_27 : decode cX3_finish 27 = .ok (.lshl, 1) := by decide +kernel
theorem dX3_finish_28 : decode cX3_finish 28 = .ok (.lor, 1) := by decide +kernel
theorem dX3_finish_29 : decode cX3_finish 29 = .ok (.putfield 35, 3) := by decide +kernel
theorem dX3_finish_32 : decode cX3_finish 32 = .ok (.return_, 1) := by decide +kernel
theorem dX3_skip_0 : decode cX3_skip 0 = .ok (.aload_n 0, 1) := by decide +kernel
theorem dX3_skip_1 : decode cX3_skip 1 = .ok (.aload_n 0, 1) := by decide +kernel
theorem dX3_skip_2 : decode cX3_skip 2 = .ok (.getfield 38, 3) := by decide +kernel
theorem dX3_skip_5 : decode cX3_skip 5 = .ok (.iload_n 1, 1) := by decide +kernel
theorem dX3_skip_6 : decode cX3_skip 6 = .ok (.iadd, 1) := by decide +kernel
theorem dX3_skip_7 : decode cX3_skip 7 = .ok (.bipush 64, 2) := by decide +kernel
theorem dX3_skip_9 : decode cX3_skip 9 = .ok (.irem, 1) := by decide +kernel
theorem dX3_skip_10 : decode cX3_skip 10 = .ok (.putfield 38, 3) := by decide +kernel
theorem dX3_skip_13 : decode cX3_skip 13 = .ok (.aload_n 0, 1) := by decide +kernel
theorem dX3_skip_14 : decode cX3_skip 14 = .ok (.getfield 38, 3) := by decide +kernel
theorem dX3_skip_17 : decode cX3_skip 17 = .ok (.ireturn, 1) := by decide +kernel
set_option maxRecDepth 20000 in
theorem ggX3_activeCount_J13_bitCount_95d88 : GoodIn wsX3_activeCount wsJ13_bitCount_95d88 := goodIn_r _ [5, 6, 7, 8] (by decide +kernel) (by decide +kernel)
set_option maxRecDepth 20000 in
theorem gX3_activeCount_J13_bitCount_95d88 : GoodIn wsX3_activeCount (va_wsS RX3 47 yJ13_bitCount_95d88 wsJ13_bitCount_95d88) := goodIn_app (goodIn_of _ (by decide +kernel)) ggX3_activeCount_J13_bitCount_95d88
theorem dX3_activeCount_0 : decode cX3_activeCount 0 = .ok (.aload_n 0, 1) := by decide +kernel
theorem dX3_activeCount_1 : decode cX3_activeCount 1 = .ok (.getfield 23, 3) := by decide +kernel
theorem dX3_activeCount_4 : decode cX3_activeCount 4 = .ok (.invokestatic 47, 3) := by decide +kernel
theorem dX3_activeCount_7 : decode cX3_activeCount 7 = .ok (.ireturn, 1) := by decide +kernel
set_option maxRecDepth 20000 in
theorem ggX3_ageOf_X4_distance : GoodIn wsX3_ageOf wsX4_distance := goodIn_r _ [4, 5, 6, 7, 8] (by decide +kernel) (by decide +kernel)
set_option maxRecDepth 20000 in
theorem gX3_ageOf_X4_distance_n53 : GoodIn wsX3_ageOf (wsX4_distance) := ggX3_ageOf_X4_distance
theorem dX3_ageOf_0 : decode cX3_ageOf 0 = .ok (.iload_n 1, 1) := by decide +kernel
theorem dX3_ageOf_1 : decode cX3_ageOf 1 = .ok (.aload_n 0, 1) := by decide +kernel
theorem dX3_ageOf_2 : decode cX3_ageOf 2 = .ok (.getfield 38, 3) := by decide +kernel
theorem dX3_ageOf_5 : decode cX3_ageOf 5 = .ok (.invokestatic 53, 3) := by decide +kernel
theorem dX3_ageOf_8 : decode cX3_ageOf 8 = .ok (.ireturn, 1) := by decide +kernel
set_option maxRecDepth 20000 in
theorem ggX3_oldestActiveAge_X3_isActive : GoodIn wsX3_oldestActiveAge wsX3_isActive := goodIn_r _ [11, 12, 13, 14, 10, 15, 28, 29, 30, 31, 32, 33] (by decide +kernel) (by decide +kernel)
set_option maxRecDepth 20000 in
theorem gX3_oldestActiveAge_X3_isActive : GoodIn wsX3_oldestActiveAge (wsV RX3 57 RX3 yX3_isActive wsX3_isActive) := goodIn_app (goodIn_of _ (by decide +kernel)) ggX3_oldestActiveAge_X3_isActive
set_option maxRecDepth 20000 in
theorem ggX3_oldestActiveAge_X3_ageOf : GoodIn wsX3_oldestActiveAge wsX3_ageOf := goodIn_r _ [19, 20, 21, 22, 23, 24, 25, 26, 27, 28, 29, 30, 31, 32, 33] (by decide +kernel) (by decide +kernel)
set_option maxRecDepth 20000 in
theorem gX3_oldestActiveAge_X3_ageOf : GoodIn wsX3_oldestActiveAge (wsV RX3 60 RX3 yX3_ageOf wsX3_ageOf) := goodIn_app (goodIn_of _ (by decide +kernel)) ggX3_oldestActiveAge_X3_ageOf
theorem dX3_oldestActiveAge_0 : decode cX3_oldestActiveAge 0 = .ok (.iconst 0, 1) := by decide +kernel
theorem dX3_oldestActiveAge_1 : decode cX3_oldestActiveAge 1 = .ok (.istore_n 1, 1) := by decide +kernel
theorem dX3_oldestActiveAge_2 : decode cX3_oldestActiveAge 2 = .ok (.iconst 0, 1) := by decide +kernel
theorem dX3_oldestActiveAge_3 : decode cX3_oldestActiveAge 3 = .ok (.istore_n 2, 1) := by decide +kernel
theorem dX3_oldestActiveAge_4 : decode cX3_oldestActiveAge 4 = .ok (.iload_n 2, 1) := by decide +kernel
theorem dX3_oldestActiveAge_5 : decode cX3_oldestActiveAge 5 = .ok (.aload_n 0, 1) := by decide +kernel
theorem dX3_oldestActiveAge_6 : decode cX3_oldestActiveAge 6 = .ok (.getfield 19, 3) := by decide +kernel
theorem dX3_oldestActiveAge_9 : decode cX3_oldestActiveAge 9 = .ok (.if_icmp .ge 32, 3) := by decide +kernel
theorem dX3_oldestActiveAge_12 : decode cX3_oldestActiveAge 12 = .ok (.aload_n 0, 1) := by decide +kernel
theorem dX3_oldestActiveAge_13 : decode cX3_oldestActiveAge 13 = .ok (.iload_n 2, 1) := by decide +kernel
theorem dX3_oldestActiveAge_14 : decode cX3_oldestActiveAge 14 = .ok (.invokevirtual 57, 3) := by decide +kernel
theorem dX3_oldestActiveAge_17 : decode cX3_oldestActiveAge 17 = .ok (.ifCond .eq 18, 3) := by decide +kernel
theorem dX3_oldestActiveAge_20 : decode cX3_oldestActiveAge 20 = .ok (.iload_n 1, 1) := by decide +kernel
theorem dX3_oldestActiveAge_21 : decode cX3_oldestActiveAge 21 = .ok (.aload_n 0, 1) := by decide +kernel
theorem dX3_oldestActiveAge_22 : decode cX3_oldestActiveAge 22 = .ok (.aload_n 0, 1) := by decide +kernel
theorem dX3_oldestActiveAge_23 : decode cX3_oldestActiveAge 23 = .ok (.getfield 9, 3) := by decide +kernel
theorem dX3_oldestActiveAge_26 : decode cX3_oldestActiveAge 26 = .ok (.iload_n 2, 1) := by decide +kernel
theorem dX3_oldestActiveAge_27 : decode cX3_oldestActiveAge 27 = .ok (.iaload, 1) := by decide +kernel
theorem dX3_oldestActiveAge_28 : decode cX3_oldestActiveAge 28 = .ok (.invokevirtual 60, 3) := by decide +kernel
theorem dX3_oldestActiveAge_31 : decode cX3_oldestActiveAge 31 = .ok (.invokestatic 63, 3) := by decide +kernel
theorem dX3_oldestActiveAge_34 : decode cX3_oldestActiveAge 34 = .ok (.istore_n 1, 1) := by decide +kernel
theorem dX3_oldestActiveAge_35 : decode cX3_oldestActiveAge 35 = .ok (.iinc 2 1, 3) := by decide +kernel
theorem dX3_oldestActiveAge_38 : decode cX3_oldestActiveAge 38 = .ok (.goto (-34), 3) := by decide +kernel
theorem dX3_oldestActiveAge_41 : decode cX3_oldestActiveAge 41 = .ok (.iload_n 1, 1) := by decide +kernel
theorem dX3_oldestActiveAge_42 : decode cX3_oldestActiveAge 42 = .ok (.ireturn, 1) := by decide +kernel
set_option maxRecDepth 20000 in
theorem ggX3_knows_X3_has : GoodIn wsX3_knows wsX3_has := goodIn_r _ [5] (by decide +kernel) (by decide +kernel)
set_option maxRecDepth 20000 in
theorem gX3_knows_X3_has : GoodIn wsX3_knows (va_wsS RX3 27 yX3_has wsX3_has) := goodIn_app (goodIn_of _ (by decide +kernel)) ggX3_knows_X3_has
theorem dX3_knows_0 : decode cX3_knows 0 = .ok (.iload_n 2, 1) := by decide +kernel
theorem dX3_knows_1 : decode cX3_knows 1 = .ok (.iload_n 1, 1) := by decide +kernel
theorem dX3_knows_2 : decode cX3_knows 2 = .ok (.if_icmp .eq 16, 3) := by decide +kernel
theorem dX3_knows_5 : decode cX3_knows 5 = .ok (.aload_n 0, 1) := by decide +kernel
theorem dX3_knows_6 : decode cX3_knows 6 = .ok (.getfield 15, 3) := by decide +kernel
theorem dX3_knows_9 : decode cX3_knows 9 = .ok (.iload_n 1, 1) := by decide +kernel
theorem dX3_knows_10 : decode cX3_knows 10 = .ok (.laload, 1) := by decide +kernel
theorem dX3_knows_11 : decode cX3_knows 11 = .ok (.iload_n 2, 1) := by decide +kernel
theorem dX3_knows_12 : decode cX3_knows 12 = .ok (.invokestatic 27, 3) := by decide +kernel
theorem dX3_knows_15 : decode cX3_knows 15 = .ok (.ifCond .eq 7, 3) := by decide +kernel
theorem dX3_knows_18 : decode cX3_knows 18 = .ok (.iconst 1, 1) := by decide +kernel
theorem dX3_knows_19 : decode cX3_knows 19 = .ok (.goto 4, 3) := by decide +kernel
theorem dX3_knows_22 : decode cX3_knows 22 = .ok (.iconst 0, 1) := by decide +kernel
theorem dX3_knows_23 : decode cX3_knows 23 = .ok (.ireturn, 1) := by decide +kernel
set_option maxRecDepth 20000 in
theorem ggX3_isRival_X3_has : GoodIn wsX3_isRival wsX3_has := goodIn_r _ [6] (by decide +kernel) (by decide +kernel)
set_option maxRecDepth 20000 in
theorem gX3_isRival_X3_has : GoodIn wsX3_isRival (va_wsS RX3 27 yX3_has wsX3_has) := goodIn_app (goodIn_of _ (by decide +kernel)) ggX3_isRival_X3_has
set_option maxRecDepth 20000 in
theorem ggX3_isRival_X3_knows : GoodIn wsX3_isRival wsX3_knows := goodIn_r _ [10, 11, 3, 4, 5, 6, 12, 13, 14, 15, 16, 17] (by decide +kernel) (by decide +kernel)
set_option maxRecDepth 20000 in
theorem gX3_isRival_X3_knows : GoodIn wsX3_isRival (wsV RX3 68 RX3 yX3_knows wsX3_knows) := goodIn_app (goodIn_of _ (by decide +kernel)) ggX3_isRival_X3_knows
theorem dX3_isRival_0 : decode cX3_isRival 0 = .ok (.aload_n 0, 1) := by decide +kernel
theorem dX3_isRival_1 : decode cX3_isRival 1 = .ok (.getfield 23, 3) := by decide +kernel
theorem dX3_isRival_4 : decode cX3_isRival 4 = .ok (.aload_n 0, 1) := by decide +kernel
theorem dX3_isRival_5 : decode cX3_isRival 5 = .ok (.getfield 35, 3) := by decide +kernel
theorem dX3_isRival_8 : decode cX3_isRival 8 = .ok (.lor, 1) := by decide +kernel
theorem dX3_isRival_9 : decode cX3_isRival 9 = .ok (.iload_n 2, 1) := by decide +kernel
theorem dX3_isRival_10 : decode cX3_isRival 10 = .ok (.invokestatic 27, 3) := by decide +kernel
theorem dX3_isRival_13 : decode cX3_isRival 13 = .ok (.ifCond .eq 16, 3) := by decide +kernel
theorem dX3_isRival_16 : decode cX3_isRival 16 = .ok (.aload_n 0, 1) := by decide +kernel
theorem dX3_isRival_17 : decode cX3_isRival 17 = .ok (.iload_n 1, 1) := by decide +kernel
theorem dX3_isRival_18 : decode cX3_isRival 18 = .ok (.iload_n 2, 1) := by decide +kernel
theorem dX3_isRival_19 : decode cX3_isRival 19 = .ok (.invokevirtual 68, 3) := by decide +kernel
theorem dX3_isRival_22 : decode cX3_isRival 22 = .ok (.ifCond .ne 7, 3) := by decide +kernel
theorem dX3_isRival_25 : decode cX3_isRival 25 = .ok (.iconst 1, 1) := by decide +kernel
theorem dX3_isRival_26 : decode cX3_isRival 26 = .ok (.goto 4, 3) := by decide +kernel
theorem dX3_isRival_29 : decode cX3_isRival 29 = .ok (.iconst 0, 1) := by decide +kernel
theorem dX3_isRival_30 : decode cX3_isRival 30 = .ok (.ireturn, 1) := by decide +kernel
set_option maxRecDepth 20000 in
theorem ggX3_settled_X3_isActive : GoodIn wsX3_settled wsX3_isActive := goodIn_r _ [8, 9, 10, 11, 7, 12, 13, 14, 15, 16, 17, 18] (by decide +kernel) (by decide +kernel)
set_option maxRecDepth 20000 in
theorem gX3_settled_X3_isActive : GoodIn wsX3_settled (wsV RX3 57 RX3 yX3_isActive wsX3_isActive) := goodIn_app (goodIn_of _ (by decide +kernel)) ggX3_settled_X3_isActive
theorem dX3_settled_0 : decode cX3_settled 0 = .ok (.aload_n 0, 1) := by decide +kernel
theorem dX3_settled_1 : decode cX3_settled 1 = .ok (.getfield 35, 3) := by decide +kernel
theorem dX3_settled_4 : decode cX3_settled 4 = .ok (.lstore_n 1, 1) := by decide +kernel
theorem dX3_settled_5 : decode cX3_settled 5 = .ok (.iconst 0, 1) := by decide +kernel
theorem dX3_settled_6 : decode cX3_settled 6 = .ok (.istore_n 3, 1) := by decide +kernel
theorem dX3_settled_7 : decode cX3_settled 7 = .ok (.iload_n 3, 1) := by decide +kernel
theorem dX3_settled_8 : decode cX3_settled 8 = .ok (.aload_n 0, 1) := by decide +kernel
theorem dX3_settled_9 : decode cX3_settled 9 = .ok (.getfield 19, 3) := by decide +kernel
theorem dX3_settled_12 : decode cX3_settled 12 = .ok (.if_icmp .ge 26, 3) := by decide +kernel
theorem dX3_settled_15 : decode cX3_settled 15 = .ok (.aload_n 0, 1) := by decide +kernel
theorem dX3_settled_16 : decode cX3_settled 16 = .ok (.iload_n 3, 1) := by decide +kernel
theorem dX3_settled_17 : decode cX3_settled 17 = .ok (.invokevirtual 57, 3) := by decide +kernel
theorem dX3_settled_20 : decode cX3_settled 20 = .ok (.ifCond .eq 12, 3) := by decide +kernel
theorem dX3_settled_23 : decode cX3_settled 23 = .ok (.lload_n 1, 1) := by decide +kernel
theorem dX3_settled_24 : decode cX3_settled 24 = .ok (.aload_n 0, 1) := by decide +kernel
theorem dX3_settled_25 : decode cX3_settled 25 = .ok (.getfield 15, 3) := by decide +kernel
theorem dX3_settled_28 : decode cX3_settled 28 = .ok (.iload_n 3, 1) := by decide +kernel
theorem dX3_settled_29 : decode cX3_settled 29 = .ok (.laload, 1) := by decide +kernel
theorem dX3_settled_30 : decode cX3_settled 30 = .ok (.land, 1) := by decide +kernel
theorem dX3_settled_31 : decode cX3_settled 31 = .ok (.lstore_n 1, 1) := by decide +kernel
theorem dX3_settled_32 : decode cX3_settled 32 = .ok (.iinc 3 1, 3) := by decide +kernel
theorem dX3_settled_35 : decode cX3_settled 35 = .ok (.goto (-28), 3) := by decide +kernel
theorem dX3_settled_38 : decode cX3_settled 38 = .ok (.lload_n 1, 1) := by decide +kernel
theorem dX3_settled_39 : decode cX3_settled 39 = .ok (.lreturn, 1) := by decide +kernel
set_option maxRecDepth 20000 in
theorem ggX4_init_X3_init : GoodIn wsX4_init wsX3_init := goodIn_r _ [24, 25, 2, 3, 26, 27, 28, 29, 60, 61, 62, 63, 64, 65] (by decide +kernel) (by decide +kernel)
set_option maxRecDepth 20000 in
theorem gX4_init_X3_init_n11 : GoodIn wsX4_init (wsX3_init) := ggX4_init_X3_init
set_option maxRecDepth 20000 in
theorem ggX4_init_X1_init : GoodIn wsX4_init wsX1_init := goodIn_r _ [32, 33, 2, 3, 26, 34, 35, 36, 37, 20, 38, 39, 40, 41, 42, 43, 44, 45, 10, 46, 72, 73, 74, 75, 76, 77, 78, 79, 80] (by decide +kernel) (by decide +kernel)
set_option maxRecDepth 20000 in
theorem gX4_init_X1_init : GoodIn wsX4_init (wsX1_init) := ggX4_init_X1_init
set_option maxRecDepth 20000 in
theorem ggX4_init_X0_init : GoodIn wsX4_init wsX0_init := goodIn_r _ [48, 49, 2, 3, 50, 26, 51, 52, 81, 82] (by decide +kernel) (by decide +kernel)
set_option maxRecDepth 20000 in
theorem gX4_init_X0_init_n25 : GoodIn wsX4_init (wsX0_init) := ggX4_init_X0_init
set_option maxRecDepth 20000 in
theorem ggX4_init_X2_init : GoodIn wsX4_init wsX2_init := goodIn_r _ [54, 55, 2, 3, 26, 56, 57, 58, 59, 83, 84, 85, 86, 87] (by decide +kernel) (by decide +kernel)
set_option maxRecDepth 20000 in
theorem gX4_init_X2_init_n32 : GoodIn wsX4_init (wsX2_init) := ggX4_init_X2_init
end
section
theorem dX4_init_0 : decode cX4_init 0 = .ok (.aload_n 0, 1) := by decide +kernel
theorem dX4_init_1 : decode cX4_init 1 = .ok (.invokespecial 3, 3) := by decide +kernel
theorem dX4_init_4 : decode cX4_init 4 = .ok (.aload_n 0, 1) := by decide +kernel
theorem dX4_init_5 : decode cX4_init 5 = .ok (.new 9, 3) := by decide +kernel
theorem dX4_init_8 : decode cX4_init 8 = .ok (.dup, 1) := by decide +kernel
theorem dX4_init_9 : decode cX4_init 9 = .ok (.invokespecial 11, 3) := by decide +kernel
theorem dX4_init_12 : decode cX4_init 12 = .ok (.putfield 12, 3) := by decide +kernel
theorem dX4_init_15 : decode cX4_init 15 = .ok (.aload_n 0, 1) := by decide +kernel
theorem dX4_init_16 : decode cX4_init 16 = .ok (.new 16, 3) := by decide +kernel
theorem dX4_init_19 : decode cX4_init 19 = .ok (.dup, 1) := by decide +kernel
theorem dX4_init_20 : decode cX4_init 20 = .ok (.invokespecial 18, 3) := by decide +kernel
theorem dX4_init_23 : decode cX4_init 23 = .ok (.putfield 19, 3) := by decide +kernel
theorem dX4_init_26 : decode cX4_init 26 = .ok (.aload_n 0, 1) := by decide +kernel
theorem dX4_init_27 : decode cX4_init 27 = .ok (.new 23, 3) := by decide +kernel
theorem dX4_init_30 : decode cX4_init 30 = .ok (.dup, 1) := by decide +kernel
theorem dX4_init_31 : decode cX4_init 31 = .ok (.invokespecial 25, 3) := by decide +kernel
theorem dX4_init_34 : decode cX4_init 34 = .ok (.putfield 26, 3) := by decide +kernel
theorem dX4_init_37 : decode cX4_init 37 = .ok (.aload_n 0, 1) := by decide +kernel
theorem dX4_init_38 : decode cX4_init 38 = .ok (.new 30, 3) := by decide +kernel
theorem dX4_init_41 : decode cX4_init 41 = .ok (.dup, 1) := by decide +kernel
theorem dX4_init_42 : decode cX4_init 42 = .ok (.invokespecial 32, 3) := by decide +kernel
theorem dX4_init_45 : decode cX4_init 45 = .ok (.putfield 33, 3) := by decide +kernel
theorem dX4_init_48 : decode cX4_init 48 = .ok (.aload_n 0, 1) := by decide +kernel
theorem dX4_init_49 : decode cX4_init 49 = .ok (.iconst 4, 1) := by decide +kernel
theorem dX4_init_50 : decode cX4_init 50 = .ok (.newarray .boolean, 2) := by decide +kernel
theorem dX4_init_52 : decode cX4_init 52 = .ok (.putfield 37, 3) := by decide +kernel
theorem dX4_init_55 : decode cX4_init 55 = .ok (.aload_n 0, 1) := by decide +kernel
theorem dX4_init_56 : decode cX4_init 56 = .ok (.bipush 20, 2) := by decide +kernel
theorem dX4_init_58 : decode cX4_init 58 = .ok (.putfield 41, 3) := by decide +kernel
theorem dX4_init_61 : decode cX4_init 61 = .ok (.return_, 1) := by decide +kernel
set_option maxRecDepth 20000 in
theorem ggX4_begin_X3_areAllUsed : GoodIn wsX4_begin wsX3_areAllUsed := goodIn_r _ [8, 9, 76, 77, 78, 79, 80, 81] (by decide +kernel) (by decide +kernel)
set_option maxRecDepth 20000 in
theorem gX4_begin_X3_areAllUsed : GoodIn wsX4_begin (wsV RX4 45 RX3 yX3_areAllUsed wsX3_areAllUsed) := goodIn_app (goodIn_of _ (by decide +kernel)) ggX4_begin_X3_areAllUsed
set_option maxRecDepth 20000 in
theorem ggX4_begin_X4_oldest : GoodIn wsX4_begin wsX4_oldest := goodIn_r _ [14, 3, 15, 16, 17, 18, 19, 20, 21, 22, 23, 24, 25, 7, 26, 9, 27, 28, 29, 30, 31, 32, 33, 34, 35, 36, 37, 38, 39, 40, 41, 42, 13, 43, 44, 45, 46, 47, 48, 49, 50, 51, 52, 53, 54, 55, 56, 57, 58, 59, 70, 71, 72, 73, 74, 75, 82, 83, 84, 85, 86, 87, 88, 89, 90, 76, 77, 78, 79, 80, 81] (by decide +kernel) (by decide +kernel)
set_option maxRecDepth 20000 in
theorem gX4_begin_X4_oldest : GoodIn wsX4_begin (wsV RX4 56 RX4 yX4_oldest wsX4_oldest) := goodIn_app (goodIn_of _ (by decide +kernel)) ggX4_begin_X4_oldest
set_option maxRecDepth 20000 in
theorem ggX4_begin_X3_start : GoodIn wsX4_begin wsX3_start := goodIn_r _ [63, 9, 27, 41, 64, 65, 33, 66, 67, 68, 7, 69, 76, 77, 78, 79, 80, 81] (by decide +kernel) (by decide +kernel)
set_option maxRecDepth 20000 in
theorem gX4_begin_X3_start : GoodIn wsX4_begin (wsV RX4 62 RX3 yX3_start wsX3_start) := goodIn_app (goodIn_of _ (by decide +kernel)) ggX4_begin_X3_start
theorem dX4_begin_0 : decode cX4_begin 0 = .ok (.aload_n 0, 1) := by decide +kernel
theorem dX4_begin_1 : decode cX4_begin 1 = .ok (.getfield 12, 3) := by decide +kernel
theorem dX4_begin_4 : decode cX4_begin 4 = .ok (.invokevirtual 45, 3) := by decide +kernel
theorem dX4_begin_7 : decode cX4_begin 7 = .ok (.ifCond .eq 13, 3) := by decide +kernel
theorem dX4_begin_10 : decode cX4_begin 10 = .ok (.new 49, 3) := by decide +kernel
theorem dX4_begin_13 : decode cX4_begin 13 = .ok (.dup, 1) := by decide +kernel
theorem dX4_begin_14 : decode cX4_begin 14 = .ok (.ldc 51, 2) := by decide +kernel
theorem dX4_begin_16 : decode cX4_begin 16 = .ok (.invokespecial 53, 3) := by decide +kernel
theorem dX4_begin_19 : decode cX4_begin 19 = .ok (.athrow, 1) := by decide +kernel
theorem dX4_begin_20 : decode cX4_begin 20 = .ok (.aload_n 0, 1) := by decide +kernel
theorem dX4_begin_21 : decode cX4_begin 21 = .ok (.invokevirtual 56, 3) := by decide +kernel
theorem dX4_begin_24 : decode cX4_begin 24 = .ok (.bipush 28, 2) := by decide +kernel
theorem dX4_begin_26 : decode cX4_begin 26 = .ok (.if_icmp .lt 13, 3) := by decide +kernel
theorem dX4_begin_29 : decode cX4_begin 29 = .ok (.new 49, 3) := by decide +kernel
theorem dX4_begin_32 : decode cX4_begin 32 = .ok (.dup, 1) := by decide +kernel
theorem dX4_begin_33 : decode cX4_begin 33 = .ok (.ldc 60, 2) := by decide +kernel
theorem dX4_begin_35 : decode cX4_begin 35 = .ok (.invokespecial 53, 3) := by decide +kernel
theorem dX4_begin_38 : decode cX4_begin 38 = .ok (.athrow, 1) := by decide +kernel
theorem dX4_begin_39 : decode cX4_begin 39 = .ok (.aload_n 0, 1) := by decide +kernel
theorem dX4_begin_40 : decode cX4_begin 40 = .ok (.getfield 12, 3) := by decide +kernel
theorem dX4_begin_43 : decode cX4_begin 43 = .ok (.invokevirtual 62, 3) := by decide +kernel
theorem dX4_begin_46 : decode cX4_begin 46 = .ok (.ireturn, 1) := by decide +kernel
set_option maxRecDepth 20000 in
theorem ggX4_end_X4_checkTransaction : GoodIn wsX4_end wsX4_checkTransaction := goodIn_ca (goodIn_r _ [8, 9, 10, 1, 11, 12, 13, 14, 15, 16, 61, 62, 63, 64, 65, 66, 67, 68, 69, 70, 71, 72] (by decide +kernel) (by decide +kernel)) (goodIn_sub (fun _ h => List.mem_cons_of_mem _ (List.mem_append_left _ (List.mem_append_right _ h))) (by decide +kernel))
set_option maxRecDepth 20000 in
theorem gX4_end_X4_checkTransaction : GoodIn wsX4_end (wsV RX4 65 RX4 yX4_checkTransaction wsX4_checkTransaction) := goodIn_app (goodIn_of _ (by decide +kernel)) ggX4_end_X4_checkTransaction
set_option maxRecDepth 20000 in
theorem ggX4_end_X4_checkActive : GoodIn wsX4_end wsX4_checkActive := goodIn_ca (goodIn_r _ [20, 21, 22, 1, 23, 24, 25, 14, 26, 27, 28, 29, 30, 61, 62, 63, 64, 65, 66, 67, 68, 69, 70, 71, 72] (by decide +kernel) (by decide +kernel)) (goodIn_sub (fun _ h => List.mem_cons_of_mem _ (List.mem_append_right _ h)) (by decide +kernel))
set_option maxRecDepth 20000 in
theorem gX4_end_X4_checkActive : GoodIn wsX4_end (wsV RX4 69 RX4 yX4_checkActive wsX4_checkActive) := goodIn_app (goodIn_of _ (by decide +kernel)) ggX4_end_X4_checkActive
set_option maxRecDepth 20000 in
theorem ggX4_end_X3_finish : GoodIn wsX4_end wsX3_finish := goodIn_r _ [34, 27, 35, 36, 67, 68, 69, 70, 71, 72] (by decide +kernel) (by decide +kernel)
set_option maxRecDepth 20000 in
theorem gX4_end_X3_finish : GoodIn wsX4_end (wsV RX4 72 RX3 yX3_finish wsX3_finish) := goodIn_app (goodIn_of _ (by decide +kernel)) ggX4_end_X3_finish
set_option maxRecDepth 20000 in
theorem ggX4_end_X1_takeOffDeaths : GoodIn wsX4_end wsX1_takeOffDeaths := goodIn_r _ [41, 42, 73, 74, 75, 76, 77, 78, 79, 80, 81] (by decide +kernel) (by decide +kernel)
set_option maxRecDepth 20000 in
theorem gX4_end_X1_takeOffDeaths : GoodIn wsX4_end (wsV RX4 76 RX1 yX1_takeOffDeaths wsX1_takeOffDeaths) := goodIn_app (goodIn_of _ (by decide +kernel)) ggX4_end_X1_takeOffDeaths
set_option maxRecDepth 20000 in
theorem ggX4_end_X2_takeOffDeaths : GoodIn wsX4_end wsX2_takeOffDeaths := goodIn_r _ [47, 48, 49, 82, 83, 84, 85, 86] (by decide +kernel) (by decide +kernel)
set_option maxRecDepth 20000 in
theorem gX4_end_X2_takeOffDeaths : GoodIn wsX4_end (wsV RX4 79 RX2 yX2_takeOffDeaths wsX2_takeOffDeaths) := goodIn_app (goodIn_of _ (by decide +kernel)) ggX4_end_X2_takeOffDeaths
set_option maxRecDepth 20000 in
theorem ggX4_end_X3_activeCount : GoodIn wsX4_end wsX3_activeCount := goodIn_r _ [53, 27, 54, 55, 56, 57, 58, 59, 60, 67, 68, 69, 70, 71, 72] (by decide +kernel) (by decide +kernel)
set_option maxRecDepth 20000 in
theorem gX4_end_X3_activeCount : GoodIn wsX4_end (wsV RX4 80 RX3 yX3_activeCount wsX3_activeCount) := goodIn_app (goodIn_of _ (by decide +kernel)) ggX4_end_X3_activeCount
theorem dX4_end_0 : decode cX4_end 0 = .ok (.aload_n 0, 1) := by decide +kernel
theorem dX4_end_1 : decode cX4_end 1 = .ok (.iload_n 1, 1) := by decide +kernel
theorem dX4_end_2 : decode cX4_end 2 = .ok (.invokevirtual 65, 3) := by decide +kernel
theorem dX4_end_5 : decode cX4_end 5 = .ok (.aload_n 0, 1) := by decide +kernel
theorem dX4_end_6 : decode cX4_end 6 = .ok (.iload_n 1, 1) := by decide +kernel
theorem dX4_end_7 : decode cX4_end 7 = .ok (.invokevirtual 69, 3) := by decide +kernel
theorem dX4_end_10 : decode cX4_end 10 = .ok (.aload_n 0, 1) := by decide +kernel
theorem dX4_end_11 : decode cX4_end 11 = .ok (.getfield 12, 3) := by decide +kernel
theorem dX4_end_14 : decode cX4_end 14 = .ok (.iload_n 1, 1) := by decide +kernel
theorem dX4_end_15 : decode cX4_end 15 = .ok (.iload_n 2, 1) := by decide +kernel
theorem dX4_end_16 : decode cX4_end 16 = .ok (.invokevirtual 72, 3) := by decide +kernel
theorem dX4_end_19 : decode cX4_end 19 = .ok (.iload_n 2, 1) := by decide +kernel
theorem dX4_end_20 : decode cX4_end 20 = .ok (.ifCond .ne 19, 3) := by decide +kernel
theorem dX4_end_23 : decode cX4_end 23 = .ok (.aload_n 0, 1) := by decide +kernel
theorem dX4_end_24 : decode cX4_end 24 = .ok (.getfield 19, 3) := by decide +kernel
theorem dX4_end_27 : decode cX4_end 27 = .ok (.iload_n 1, 1) := by decide +kernel
theorem dX4_end_28 : decode cX4_end 28 = .ok (.invokevirtual 76, 3) := by decide +kernel
theorem dX4_end_31 : decode cX4_end 31 = .ok (.aload_n 0, 1) := by decide +kernel
theorem dX4_end_32 : decode cX4_end 32 = .ok (.getfield 33, 3) := by decide +kernel
theorem dX4_end_35 : decode cX4_end 35 = .ok (.iload_n 1, 1) := by decide +kernel
theorem dX4_end_36 : decode cX4_end 36 = .ok (.invokevirtual 79, 3) := by decide +kernel
theorem dX4_end_39 : decode cX4_end 39 = .ok (.aload_n 0, 1) := by decide +kernel
theorem dX4_end_40 : decode cX4_end 40 = .ok (.getfield 12, 3) := by decide +kernel
theorem dX4_end_43 : decode cX4_end 43 = .ok (.invokevirtual 80, 3) := by decide +kernel
theorem dX4_end_46 : decode cX4_end 46 = .ok (.ireturn, 1) := by decide +kernel
set_option maxRecDepth 20000 in
theorem ggX4_jump_X4_oldest : GoodIn wsX4_jump wsX4_oldest := goodIn_r _ [10, 5, 11, 12, 13, 14, 15, 16, 17, 18, 19, 20, 21, 22, 23, 24, 25, 26, 27, 28, 29, 30, 31, 32, 33, 34, 35, 36, 37, 38, 39, 40, 9, 41, 42, 43, 44, 45, 46, 47, 48, 49, 50, 51, 52, 53, 54, 55, 56, 57, 62, 63, 64, 65, 66, 67, 68, 69, 70, 71, 72, 73, 74, 75, 76, 77, 78, 79, 80, 81, 82] (by decide +kernel) (by decide +kernel)
set_option maxRecDepth 20000 in
theorem gX4_jump_X4_oldest : GoodIn wsX4_jump (wsV RX4 56 RX4 yX4_oldest wsX4_oldest) := goodIn_app (goodIn_of _ (by decide +kernel)) ggX4_jump_X4_oldest
set_option maxRecDepth 20000 in
theorem ggX4_jump_X3_skip : GoodIn wsX4_jump wsX3_skip := goodIn_r _ [61, 39, 77, 78, 79, 80, 81, 82] (by decide +kernel) (by decide +kernel)
set_option maxRecDepth 20000 in
theorem gX4_jump_X3_skip : GoodIn wsX4_jump (wsV RX4 90 RX3 yX3_skip wsX3_skip) := goodIn_app (goodIn_of _ (by decide +kernel)) ggX4_jump_X3_skip
theorem dX4_jump_0 : decode cX4_jump 0 = .ok (.iload_n 1, 1) := by decide +kernel
theorem dX4_jump_1 : decode cX4_jump 1 = .ok (.iconst 1, 1) := by decide +kernel
theorem dX4_jump_2 : decode cX4_jump 2 = .ok (.if_icmp .lt 9, 3) := by decide +kernel
theorem dX4_jump_5 : decode cX4_jump 5 = .ok (.iload_n 1, 1) := by decide +kernel
theorem dX4_jump_6 : decode cX4_jump 6 = .ok (.bipush 20, 2) := by decide +kernel
theorem dX4_jump_8 : decode cX4_jump 8 = .ok (.if_icmp .le 13, 3) := by decide +kernel
theorem dX4_jump_11 : decode cX4_jump 11 = .ok (.new 83, 3) := by decide +kernel
theorem dX4_jump_14 : decode cX4_jump 14 = .ok (.dup, 1) := by decide +kernel
theorem dX4_jump_15 : decode cX4_jump 15 = .ok (.ldc 85, 2) := by decide +kernel
theorem dX4_jump_17 : decode cX4_jump 17 = .ok (.invokespecial 87, 3) := by decide +kernel
theorem dX4_jump_20 : decode cX4_jump 20 = .ok (.athrow, 1) := by decide +kernel
theorem dX4_jump_21 : decode cX4_jump 21 = .ok (.aload_n 0, 1) := by decide +kernel
theorem dX4_jump_22 : decode cX4_jump 22 = .ok (.invokevirtual 56, 3) := by decide +kernel
theorem dX4_jump_25 : decode cX4_jump 25 = .ok (.istore_n 2, 1) := by decide +kernel
theorem dX4_jump_26 : decode cX4_jump 26 = .ok (.iload_n 2, 1) := by decide +kernel
theorem dX4_jump_27 : decode cX4_jump 27 = .ok (.ifCond .le 21, 3) := by decide +kernel
theorem dX4_jump_30 : decode cX4_jump 30 = .ok (.iload_n 2, 1) := by decide +kernel
theorem dX4_jump_31 : decode cX4_jump 31 = .ok (.iload_n 1, 1) := by decide +kernel
theorem dX4_jump_32 : decode cX4_jump 32 = .ok (.iadd, 1) := by decide +kernel
theorem dX4_jump_33 : decode cX4_jump 33 = .ok (.bipush 32, 2) := by decide +kernel
theorem dX4_jump_35 : decode cX4_jump 35 = .ok (.if_icmp .lt 13, 3) := by decide +kernel
theorem dX4_jump_38 : decode cX4_jump 38 = .ok (.new 49, 3) := by decide +kernel
theorem dX4_jump_41 : decode cX4_jump 41 = .ok (.dup, 1) := by decide +kernel
theorem dX4_jump_42 : decode cX4_jump 42 = .ok (.ldc 88, 2) := by decide +kernel
theorem dX4_jump_44 : decode cX4_jump 44 = .ok (.invokespecial 53, 3) := by decide +kernel
theorem dX4_jump_47 : decode cX4_jump 47 = .ok (.athrow, 1) := by decide +kernel
theorem dX4_jump_48 : decode cX4_jump 48 = .ok (.aload_n 0, 1) := by decide +kernel
theorem dX4_jump_49 : decode cX4_jump 49 = .ok (.getfield 12, 3) := by decide +kernel
theorem dX4_jump_52 : decode cX4_jump 52 = .ok (.iload_n 1, 1) := by decide +kernel
theorem dX4_jump_53 : decode cX4_jump 53 = .ok (.invokevirtual 90, 3) := by decide +kernel
theorem dX4_jump_56 : decode cX4_jump 56 = .ok (.ireturn, 1) := by decide +kernel
set_option maxRecDepth 20000 in
theorem ggX4_stamp_X4_checkTransaction : GoodIn wsX4_stamp wsX4_checkTransaction := goodIn_ca (goodIn_r _ [7, 8, 9, 1, 10, 11, 12, 13, 14, 15, 16, 17, 18, 19, 20, 21, 22, 23, 24, 25, 26, 27] (by decide +kernel) (by decide +kernel)) (goodIn_sub (fun _ h => List.mem_cons_of_mem _ (List.mem_append_right _ h)) (by decide +kernel))
set_option maxRecDepth 20000 in
theorem gX4_stamp_X4_checkTransaction : GoodIn wsX4_stamp (wsV RX4 65 RX4 yX4_checkTransaction wsX4_checkTransaction) := goodIn_app (goodIn_of _ (by decide +kernel)) ggX4_stamp_X4_checkTransaction
theorem dX4_stamp_0 : decode cX4_stamp 0 = .ok (.aload_n 0, 1) := by decide +kernel
theorem dX4_stamp_1 : decode cX4_stamp 1 = .ok (.iload_n 1, 1) := by decide +kernel
theorem dX4_stamp_2 : decode cX4_stamp 2 = .ok (.invokevirtual 65, 3) := by decide +kernel
theorem dX4_stamp_5 : decode cX4_stamp 5 = .ok (.aload_n 0, 1) := by decide +kernel
theorem dX4_stamp_6 : decode cX4_stamp 6 = .ok (.getfield 12, 3) := by decide +kernel
theorem dX4_stamp_9 : decode cX4_stamp 9 = .ok (.getfield 94, 3) := by decide +kernel
theorem dX4_stamp_12 : decode cX4_stamp 12 = .ok (.iload_n 1, 1) := by decide +kernel
theorem dX4_stamp_13 : decode cX4_stamp 13 = .ok (.iaload, 1) := by decide +kernel
theorem dX4_stamp_14 : decode cX4_stamp 14 = .ok (.ireturn, 1) := by decide +kernel
set_option maxRecDepth 20000 in
theorem ggX4_isBefore_X4_checkStamp : GoodIn wsX4_isBefore wsX4_checkStamp := goodIn_ca (goodIn_r _ [4, 5, 6] (by decide +kernel) (by decide +kernel)) (goodIn_sub (fun _ h => List.mem_cons_of_mem _ (List.mem_append_right _ h)) (by decide +kernel))
set_option maxRecDepth 20000 in
theorem gX4_isBefore_X4_checkStamp : GoodIn wsX4_isBefore (va_wsS RX4 98 yX4_checkStamp wsX4_checkStamp) := goodIn_app (goodIn_of _ (by decide +kernel)) ggX4_isBefore_X4_checkStamp
set_option maxRecDepth 20000 in
theorem ggX4_isBefore_X4_distance : GoodIn wsX4_isBefore wsX4_distance := goodIn_r _ [9, 10, 11, 12, 13] (by decide +kernel) (by decide +kernel)
set_option maxRecDepth 20000 in
theorem gX4_isBefore_X4_distance : GoodIn wsX4_isBefore (va_wsS RX4 101 yX4_distance wsX4_distance) := goodIn_app (goodIn_of _ (by decide +kernel)) ggX4_isBefore_X4_distance
theorem dX4_isBefore_0 : decode cX4_isBefore 0 = .ok (.iload_n 1, 1) := by decide +kernel
theorem dX4_isBefore_1 : decode cX4_isBefore 1 = .ok (.invokestatic 98, 3) := by decide +kernel
theorem dX4_isBefore_4 : decode cX4_isBefore 4 = .ok (.iload_n 2, 1) := by decide +kernel
theorem dX4_isBefore_5 : decode cX4_isBefore 5 = .ok (.invokestatic 98, 3) := by decide +kernel
theorem dX4_isBefore_8 : decode cX4_isBefore 8 = .ok (.iload_n 1, 1) := by decide +kernel
theorem dX4_isBefore_9 : decode cX4_isBefore 9 = .ok (.iload_n 2, 1) := by decide +kernel
theorem dX4_isBefore_10 : decode cX4_isBefore 10 = .ok (.if_icmp .eq 17, 3) := by decide +kernel
theorem dX4_isBefore_13 : decode cX4_isBefore 13 = .ok (.iload_n 1, 1) := by decide +kernel
theorem dX4_isBefore_14 : decode cX4_isBefore 14 = .ok (.iload_n 2, 1) := by decide +kernel
theorem dX4_isBefore_15 : decode cX4_isBefore 15 = .ok (.invokestatic 101, 3) := by decide +kernel
theorem dX4_isBefore_18 : decode cX4_isBefore 18 = .ok (.bipush 32, 2) := by decide +kernel
theorem dX4_isBefore_20 : decode cX4_isBefore 20 = .ok (.if_icmp .ge 7, 3) := by decide +kernel
theorem dX4_isBefore_23 : decode cX4_isBefore 23 = .ok (.iconst 1, 1) := by decide +kernel
theorem dX4_isBefore_24 : decode cX4_isBefore 24 = .ok (.goto 4, 3) := by decide +kernel
theorem dX4_isBefore_27 : decode cX4_isBefore 27 = .ok (.iconst 0, 1) := by decide +kernel
theorem dX4_isBefore_28 : decode cX4_isBefore 28 = .ok (.ireturn, 1) := by decide +kernel
set_option maxRecDepth 20000 in
theorem ggX4_read_X4_checkTransaction : GoodIn wsX4_read wsX4_checkTransaction := goodIn_ca (goodIn_r _ [7, 8, 9, 10, 11, 12, 13, 14, 15, 16, 63, 64, 65, 66, 67, 68, 78, 79, 80, 81, 82, 83] (by decide +kernel) (by decide +kernel)) (goodIn_sub (fun _ h => List.mem_cons_of_mem _ (List.mem_append_left _ (List.mem_append_left _ (List.mem_append_right _ h)))) (by decide +kernel))
set_option maxRecDepth 20000 in
theorem gX4_read_X4_checkTransaction : GoodIn wsX4_read (wsV RX4 65 RX4 yX4_checkTransaction wsX4_checkTransaction) := goodIn_app (goodIn_of _ (by decide +kernel)) ggX4_read_X4_checkTransaction
set_option maxRecDepth 20000 in
theorem ggX4_read_X4_checkKey : GoodIn wsX4_read wsX4_checkKey := goodIn_ca (goodIn_r _ [19, 20, 21] (by decide +kernel) (by decide +kernel)) (goodIn_sub (fun _ h => List.mem_cons_of_mem _ (List.mem_append_left _ (List.mem_append_right _ h))) (by decide +kernel))
set_option maxRecDepth 20000 in
theorem gX4_read_X4_checkKey : GoodIn wsX4_read (va_wsS RX4 105 yX4_checkKey wsX4_checkKey) := goodIn_app (goodIn_of _ (by decide +kernel)) ggX4_read_X4_checkKey
set_option maxRecDepth 20000 in
theorem ggX4_read_X4_checkActive : GoodIn wsX4_read wsX4_checkActive := goodIn_ca (goodIn_r _ [25, 26, 27, 10, 28, 29, 30, 14, 31, 32, 33, 34, 35, 63, 64, 65, 66, 67, 68, 78, 79, 80, 81, 82, 83] (by decide +kernel) (by decide +kernel)) (goodIn_sub (fun _ h => List.mem_cons_of_mem _ (List.mem_append_right _ h)) (by decide +kernel))
set_option maxRecDepth 20000 in
theorem gX4_read_X4_checkActive : GoodIn wsX4_read (wsV RX4 69 RX4 yX4_checkActive wsX4_checkActive) := goodIn_app (goodIn_of _ (by decide +kernel)) ggX4_read_X4_checkActive
set_option maxRecDepth 20000 in
theorem ggX4_read_X4_seenPlace : GoodIn wsX4_read wsX4_seenPlace := goodIn_r _ [39, 40, 41, 42, 43, 44, 45, 6, 46, 1, 47, 48, 49, 50, 51, 52, 53, 54, 55, 10, 56, 57, 58, 59, 60, 14, 61, 62, 33, 34, 35, 63, 64, 65, 66, 67, 68, 84, 85, 69, 70, 71, 72, 73, 74, 75, 76, 77, 78, 79, 80, 81, 82, 83] (by decide +kernel) (by decide +kernel)
set_option maxRecDepth 20000 in
theorem gX4_read_X4_seenPlace : GoodIn wsX4_read (wsV RX4 108 RX4 yX4_seenPlace wsX4_seenPlace) := goodIn_app (goodIn_of _ (by decide +kernel)) ggX4_read_X4_seenPlace
set_option maxRecDepth 20000 in
theorem ggX4_read_X4_isPlace : GoodIn wsX4_read wsX4_isPlace := goodIn_r _ [50] (by decide +kernel) (by decide +kernel)
set_option maxRecDepth 20000 in
theorem gX4_read_X4_isPlace : GoodIn wsX4_read (va_wsS RX4 111 yX4_isPlace wsX4_isPlace) := goodIn_app (goodIn_of _ (by decide +kernel)) ggX4_read_X4_isPlace
theorem dX4_read_0 : decode cX4_read 0 = .ok (.aload_n 0, 1) := by decide +kernel
theorem dX4_read_1 : decode cX4_read 1 = .ok (.iload_n 1, 1) := by decide +kernel
theorem dX4_read_2 : decode cX4_read 2 = .ok (.invokevirtual 65, 3) := by decide +kernel
theorem dX4_read_5 : decode cX4_read 5 = .ok (.iload_n 2, 1) := by decide +kernel
theorem dX4_read_6 : decode cX4_read 6 = .ok (.invokestatic 105, 3) := by decide +kernel
theorem dX4_read_9 : decode cX4_read 9 = .ok (.aload_n 0, 1) := by decide +kernel
theorem dX4_read_10 : decode cX4_read 10 = .ok (.iload_n 1, 1) := by decide +kernel
theorem dX4_read_11 : decode cX4_read 11 = .ok (.invokevirtual 69, 3) := by decide +kernel
theorem dX4_read_14 : decode cX4_read 14 = .ok (.aload_n 0, 1) := by decide +kernel
theorem dX4_read_15 : decode cX4_read 15 = .ok (.iload_n 1, 1) := by decide +kernel
theorem dX4_read_16 : decode cX4_read 16 = .ok (.iload_n 2, 1) := by decide +kernel
theorem dX4_read_17 : decode cX4_read 17 = .ok (.invokevirtual 108, 3) := by decide +kernel
theorem dX4_read_20 : decode cX4_read 20 = .ok (.istore_n 3, 1) := by decide +kernel
theorem dX4_read_21 : decode cX4_read 21 = .ok (.iload_n 3, 1) := by decide +kernel
theorem dX4_read_22 : decode cX4_read 22 = .ok (.invokestatic 111, 3) := by decide +kernel
theorem dX4_read_25 : decode cX4_read 25 = .ok (.ifCond .eq 15, 3) := by decide +kernel
theorem dX4_read_28 : decode cX4_read 28 = .ok (.aload_n 0, 1) := by decide +kernel
theorem dX4_read_29 : decode cX4_read 29 = .ok (.getfield 19, 3) := by decide +kernel
theorem dX4_read_32 : decode cX4_read 32 = .ok (.getfield 115, 3) := by decide +kernel
theorem dX4_read_35 : decode cX4_read 35 = .ok (.iload_n 3, 1) := by decide +kernel
theorem dX4_read_36 : decode cX4_read 36 = .ok (.iaload, 1) := by decide +kernel
theorem dX4_read_37 : decode cX4_read 37 = .ok (.goto 4, 3) := by decide +kernel
theorem dX4_read_40 : decode cX4_read 40 = .ok (.iconst (-1), 1) := by decide +kernel
theorem dX4_read_41 : decode cX4_read 41 = .ok (.ireturn, 1) := by decide +kernel
set_option maxRecDepth 20000 in
theorem ggX4_readPlain_X4_checkTransaction : GoodIn wsX4_readPlain wsX4_checkTransaction := goodIn_ca (goodIn_r _ [12, 13, 14, 4, 15, 16, 17, 18, 19, 20, 45, 46, 47, 48, 49, 50, 56, 57, 58, 59, 60, 61] (by decide +kernel) (by decide +kernel)) (goodIn_sub (fun _ h => List.mem_cons_of_mem _ (List.mem_append_left _ (List.mem_append_left _ (List.mem_append_right _ h)))) (by decide +kernel))
set_option maxRecDepth 20000 in
theorem gX4_readPlain_X4_checkTransaction : GoodIn wsX4_readPlain (wsV RX4 65 RX4 yX4_checkTransaction wsX4_checkTransaction) := goodIn_app (goodIn_of _ (by decide +kernel)) ggX4_readPlain_X4_checkTransaction
set_option maxRecDepth 20000 in
theorem ggX4_readPlain_X4_checkKey : GoodIn wsX4_readPlain wsX4_checkKey := goodIn_ca (goodIn_r _ [23, 24, 25] (by decide +kernel) (by decide +kernel)) (goodIn_sub (fun _ h => List.mem_cons_of_mem _ (List.mem_append_left _ (List.mem_append_right _ h))) (by decide +kernel))
set_option maxRecDepth 20000 in
theorem gX4_readPlain_X4_checkKey : GoodIn wsX4_readPlain (va_wsS RX4 105 yX4_checkKey wsX4_checkKey) := goodIn_app (goodIn_of _ (by decide +kernel)) ggX4_readPlain_X4_checkKey
set_option maxRecDepth 20000 in
theorem ggX4_readPlain_X4_checkActive : GoodIn wsX4_readPlain wsX4_checkActive := goodIn_ca (goodIn_r _ [29, 30, 31, 4, 32, 33, 34, 18, 35, 36, 37, 38, 39, 45, 46, 47, 48, 49, 50, 56, 57, 58, 59, 60, 61] (by decide +kernel) (by decide +kernel)) (goodIn_sub (fun _ h => List.mem_cons_of_mem _ (List.mem_append_right _ h)) (by decide +kernel))
set_option maxRecDepth 20000 in
theorem gX4_readPlain_X4_checkActive : GoodIn wsX4_readPlain (wsV RX4 69 RX4 yX4_checkActive wsX4_checkActive) := goodIn_app (goodIn_of _ (by decide +kernel)) ggX4_readPlain_X4_checkActive
set_option maxRecDepth 20000 in
theorem ggX4_readPlain_X3_knows : GoodIn wsX4_readPlain wsX3_knows := goodIn_r _ [43, 44, 37, 38, 18, 39, 56, 57, 58, 59, 60, 61] (by decide +kernel) (by decide +kernel)
set_option maxRecDepth 20000 in
theorem gX4_readPlain_X3_knows : GoodIn wsX4_readPlain (wsV RX4 127 RX3 yX3_knows wsX3_knows) := goodIn_app (goodIn_of _ (by decide +kernel)) ggX4_readPlain_X3_knows
theorem dX4_readPlain_0 : decode cX4_readPlain 0 = .ok (.aload_n 0, 1) := by decide +kernel
theorem dX4_readPlain_1 : decode cX4_readPlain 1 = .ok (.iload_n 1, 1) := by decide +kernel
theorem dX4_readPlain_2 : decode cX4_readPlain 2 = .ok (.invokevirtual 65, 3) := by decide +kernel
theorem dX4_readPlain_5 : decode cX4_readPlain 5 = .ok (.iload_n 2, 1) := by decide +kernel
theorem dX4_readPlain_6 : decode cX4_readPlain 6 = .ok (.invokestatic 105, 3) := by decide +kernel
theorem dX4_readPlain_9 : decode cX4_readPlain 9 = .ok (.aload_n 0, 1) := by decide +kernel
theorem dX4_readPlain_10 : decode cX4_readPlain 10 = .ok (.iload_n 1, 1) := by decide +kernel
theorem dX4_readPlain_11 : decode cX4_readPlain 11 = .ok (.invokevirtual 69, 3) := by decide +kernel
theorem dX4_readPlain_14 : decode cX4_readPlain 14 = .ok (.iconst 0, 1) := by decide +kernel
theorem dX4_readPlain_15 : decode cX4_readPlain 15 = .ok (.istore_n 3, 1) := by decide +kernel
theorem dX4_readPlain_16 : decode cX4_readPlain 16 = .ok (.iload_n 3, 1) := by decide +kernel
theorem dX4_readPlain_17 : decode cX4_readPlain 17 = .ok (.aload_n 0, 1) := by decide +kernel
theorem dX4_readPlain_18 : decode cX4_readPlain 18 = .ok (.getfield 33, 3) := by decide +kernel
theorem dX4_readPlain_21 : decode cX4_readPlain 21 = .ok (.getfield 118, 3) := by decide +kernel
theorem dX4_readPlain_24 : decode cX4_readPlain 24 = .ok (.if_icmp .ge 72, 3) := by decide +kernel
theorem dX4_readPlain_27 : decode cX4_readPlain 27 = .ok (.aload_n 0, 1) := by decide +kernel
theorem dX4_readPlain_28 : decode cX4_readPlain 28 = .ok (.getfield 33, 3) := by decide +kernel
theorem dX4_readPlain_31 : decode cX4_readPlain 31 = .ok (.getfield 121, 3) := by decide +kernel
theorem dX4_readPlain_34 : decode cX4_readPlain 34 = .ok (.iload_n 3, 1) := by decide +kernel
theorem dX4_readPlain_35 : decode cX4_readPlain 35 = .ok (.iaload, 1) := by decide +kernel
theorem dX4_readPlain_36 : decode cX4_readPlain 36 = .ok (.iload_n 2, 1) := by decide +kernel
theorem dX4_readPlain_37 : decode cX4_readPlain 37 = .ok (.if_icmp .ne 53, 3) := by decide +kernel
theorem dX4_readPlain_40 : decode cX4_readPlain 40 = .ok (.aload_n 0, 1) := by decide +kernel
theorem dX4_readPlain_41 : decode cX4_readPlain 41 = .ok (.getfield 12, 3) := by decide +kernel
theorem dX4_readPlain_44 : decode cX4_readPlain 44 = .ok (.iload_n 1, 1) := by decide +kernel
theorem dX4_readPlain_45 : decode cX4_readPlain 45 = .ok (.aload_n 0, 1) := by decide +kernel
theorem dX4_readPlain_46 : decode cX4_readPlain 46 = .ok (.getfield 33, 3) := by decide +kernel
theorem dX4_readPlain_49 : decode cX4_readPlain 49 = .ok (.getfield 124, 3) := by decide +kernel
theorem dX4_readPlain_52 : decode cX4_readPlain 52 = .ok (.iload_n 3, 1) := by decide +kernel
theorem dX4_readPlain_53 : decode cX4_readPlain 53 = .ok (.iaload, 1) := by decide +kernel
theorem dX4_readPlain_54 : decode cX4_readPlain 54 = .ok (.invokevirtual 127, 3) := by decide +kernel
theorem dX4_readPlain_57 : decode cX4_readPlain 57 = .ok (.ifCond .eq 33, 3) := by decide +kernel
theorem dX4_readPlain_60 : decode cX4_readPlain 60 = .ok (.aload_n 0, 1) := by decide +kernel
theorem dX4_readPlain_61 : decode cX4_readPlain 61 = .ok (.getfield 12, 3) := by decide +kernel
theorem dX4_readPlain_64 : decode cX4_readPlain 64 = .ok (.iload_n 1, 1) := by decide +kernel
theorem dX4_readPlain_65 : decode cX4_readPlain 65 = .ok (.aload_n 0, 1) := by decide +kernel
theorem dX4_readPlain_66 : decode cX4_readPlain 66 = .ok (.getfield 33, 3) := by decide +kernel
theorem dX4_readPlain_69 : decode cX4_readPlain 69 = .ok (.getfield 131, 3) := by decide +kernel
theorem dX4_readPlain_72 : decode cX4_readPlain 72 = .ok (.iload_n 3, 1) := by decide +kernel
theorem dX4_readPlain_73 : decode cX4_readPlain 73 = .ok (.iaload, 1) := by decide +kernel
theorem dX4_readPlain_74 : decode cX4_readPlain 74 = .ok (.invokevirtual 127, 3) := by decide +kernel
theorem dX4_readPlain_77 : decode cX4_readPlain 77 = .ok (.ifCond .ne 13, 3) := by decide +kernel
theorem dX4_readPlain_80 : decode cX4_readPlain 80 = .ok (.aload_n 0, 1) := by decide +kernel
theorem dX4_readPlain_81 : decode cX4_readPlain 81 = .ok (.getfield 33, 3) := by decide +kernel
theorem dX4_readPlain_84 : decode cX4_readPlain 84 = .ok (.getfield 134, 3) := by decide +kernel
theorem dX4_readPlain_87 : decode cX4_readPlain 87 = .ok (.iload_n 3, 1) := by decide +kernel
theorem dX4_readPlain_88 : decode cX4_readPlain 88 = .ok (.iaload, 1) := by decide +kernel
theorem dX4_readPlain_89 : decode cX4_readPlain 89 = .ok (.ireturn, 1) := by decide +kernel
theorem dX4_readPlain_90 : decode cX4_readPlain 90 = .ok (.iinc 3 1, 3) := by decide +kernel
theorem dX4_readPlain_93 : decode cX4_readPlain 93 = .ok (.goto (-77), 3) := by decide +kernel
theorem dX4_readPlain_96 : decode cX4_readPlain 96 = .ok (.iconst (-1), 1) := by decide +kernel
theorem dX4_readPlain_97 : decode cX4_readPlain 97 = .ok (.ireturn, 1) := by decide +kernel
set_option maxRecDepth 20000 in
theorem ggX4_write_X4_checkTransaction : GoodIn wsX4_write wsX4_checkTransaction := goodIn_ca (goodIn_r _ [11, 12, 13, 14, 15, 16, 17, 18, 19, 20, 136, 137, 138, 139, 140, 141, 151, 152, 153, 154, 155, 156] (by decide +kernel) (by decide +kernel)) (goodIn_sub (fun _ h => List.mem_cons_of_mem _ (List.mem_append_left _ (List.mem_append_right _ h))) (by decide +kernel))
set_option maxRecDepth 20000 in
theorem gX4_write_X4_checkTransaction : GoodIn wsX4_write (wsV RX4 65 RX4 yX4_checkTransaction wsX4_checkTransaction) := goodIn_app (goodIn_of _ (by decide +kernel)) ggX4_write_X4_checkTransaction
set_option maxRecDepth 20000 in
theorem ggX4_write_X4_checkKey : GoodIn wsX4_write wsX4_checkKey := goodIn_ca (goodIn_r _ [23, 24, 25] (by decide +kernel) (by decide +kernel)) (goodIn_sub (fun _ h => List.mem_cons_of_mem _ (List.mem_append_right _ h)) (by decide +kernel))
set_option maxRecDepth 20000 in
theorem gX4_write_X4_checkKey : GoodIn wsX4_write (va_wsS RX4 105 yX4_checkKey wsX4_checkKey) := goodIn_app (goodIn_of _ (by decide +kernel)) ggX4_write_X4_checkKey
set_option maxRecDepth 20000 in
theorem ggX4_write_X4_checkValue : GoodIn wsX4_write wsX4_checkValue := goodIn_ca (goodIn_r _ [28, 24, 25] (by decide +kernel) (by decide +kernel)) (goodIn_sub (fun _ h => List.mem_cons_of_mem _ (List.mem_append_right _ h)) (by decide +kernel))
set_option maxRecDepth 20000 in
theorem gX4_write_X4_checkValue : GoodIn wsX4_write (va_wsS RX4 135 yX4_checkValue wsX4_checkValue) := goodIn_app (goodIn_of _ (by decide +kernel)) ggX4_write_X4_checkValue
set_option maxRecDepth 20000 in
theorem ggX4_write_X4_checkActive : GoodIn wsX4_write wsX4_checkActive := goodIn_ca (goodIn_r _ [32, 1, 2, 14, 33, 34, 35, 18, 36, 37, 38, 39, 40, 136, 137, 138, 139, 140, 141, 151, 152, 153, 154, 155, 156] (by decide +kernel) (by decide +kernel)) (goodIn_sub (fun _ h => List.mem_cons_of_mem _ (List.mem_append_left _ (List.mem_append_left _ (List.mem_append_right _ h)))) (by decide +kernel))
set_option maxRecDepth 20000 in
theorem gX4_write_X4_checkActive : GoodIn wsX4_write (wsV RX4 69 RX4 yX4_checkActive wsX4_checkActive) := goodIn_app (goodIn_of _ (by decide +kernel)) ggX4_write_X4_checkActive
set_option maxRecDepth 20000 in
theorem ggX4_write_X4_checkNotRefused : GoodIn wsX4_write wsX4_checkNotRefused := goodIn_ca (goodIn_r _ [44, 1, 2, 3, 45, 14, 46, 47, 48, 49, 50, 18, 51, 37, 52, 38, 39, 40, 53, 54, 55, 56, 57, 136, 137, 138, 139, 140, 141, 142, 143, 144, 145, 146, 147, 148, 149, 150, 151, 152, 153, 154, 155, 156] (by decide +kernel) (by decide +kernel)) (goodIn_sub (fun _ h => List.mem_cons_of_mem _ (List.mem_append_left _ (List.mem_append_left _ (List.mem_append_right _ h)))) (by decide +kernel))
set_option maxRecDepth 20000 in
theorem gX4_write_X4_checkNotRefused : GoodIn wsX4_write (wsV RX4 138 RX4 yX4_checkNotRefused wsX4_checkNotRefused) := goodIn_app (goodIn_of _ (by decide +kernel)) ggX4_write_X4_checkNotRefused
set_option maxRecDepth 20000 in
theorem ggX4_write_X4_seenPlace : GoodIn wsX4_write wsX4_seenPlace := goodIn_r _ [61, 5, 62, 63, 64, 65, 66, 10, 67, 3, 4, 68, 69, 70, 71, 72, 73, 74, 75, 14, 46, 47, 76, 54, 55, 18, 56, 57, 38, 39, 40, 136, 137, 138, 139, 140, 141, 157, 158, 142, 143, 144, 145, 146, 147, 148, 149, 150, 151, 152, 153, 154, 155, 156] (by decide +kernel) (by decide +kernel)
set_option maxRecDepth 20000 in
theorem gX4_write_X4_seenPlace : GoodIn wsX4_write (wsV RX4 108 RX4 yX4_seenPlace wsX4_seenPlace) := goodIn_app (goodIn_of _ (by decide +kernel)) ggX4_write_X4_seenPlace
set_option maxRecDepth 20000 in
theorem ggX4_write_X4_placeForNew : GoodIn wsX4_write wsX4_placeForNew := goodIn_r _ [80, 3, 68, 69, 10, 70, 81, 82, 83, 84, 85, 86, 87, 88, 89, 90, 91, 92, 93, 94, 95, 96, 136, 137, 138, 139, 140, 141, 142, 143, 144, 145, 146, 147, 148, 149, 150] (by decide +kernel) (by decide +kernel)
set_option maxRecDepth 20000 in
theorem gX4_write_X4_placeForNew : GoodIn wsX4_write (wsV RX4 142 RX4 yX4_placeForNew wsX4_placeForNew) := goodIn_app (goodIn_of _ (by decide +kernel)) ggX4_write_X4_placeForNew
set_option maxRecDepth 20000 in
theorem ggX4_write_X4_isPlace : GoodIn wsX4_write wsX4_isPlace := goodIn_r _ [70] (by decide +kernel) (by decide +kernel)
set_option maxRecDepth 20000 in
theorem gX4_write_X4_isPlace : GoodIn wsX4_write (va_wsS RX4 111 yX4_isPlace wsX4_isPlace) := goodIn_app (goodIn_of _ (by decide +kernel)) ggX4_write_X4_isPlace
set_option maxRecDepth 20000 in
theorem ggX4_write_X4_putDeath : GoodIn wsX4_write wsX4_putDeath := goodIn_r _ [100, 3, 47, 101, 14, 102, 103, 104, 105, 106, 107, 108, 109, 110, 111, 112, 81, 82, 10, 83, 136, 137, 138, 139, 140, 141, 142, 143, 144, 145, 146, 147, 148, 149, 150, 151, 152, 153, 154, 155, 156, 159, 160, 161, 162, 163] (by decide +kernel) (by decide +kernel)
set_option maxRecDepth 20000 in
theorem gX4_write_X4_putDeath : GoodIn wsX4_write (wsV RX4 147 RX4 yX4_putDeath wsX4_putDeath) := goodIn_app (goodIn_of _ (by decide +kernel)) ggX4_write_X4_putDeath
set_option maxRecDepth 20000 in
theorem ggX4_write_X4_putVersion : GoodIn wsX4_write wsX4_putVersion := goodIn_r _ [116, 3, 45, 117, 46, 118, 14, 102, 104, 103, 105, 119, 120, 121, 109, 122, 111, 123, 124, 125, 112, 81, 82, 10, 83, 136, 137, 138, 139, 140, 141, 142, 143, 144, 145, 146, 147, 148, 149, 150, 151, 152, 153, 154, 155, 156, 159, 160, 161, 162, 163] (by decide +kernel) (by decide +kernel)
set_option maxRecDepth 20000 in
theorem gX4_write_X4_putVersion : GoodIn wsX4_write (wsV RX4 150 RX4 yX4_putVersion wsX4_putVersion) := goodIn_app (goodIn_of _ (by decide +kernel)) ggX4_write_X4_putVersion
set_option maxRecDepth 20000 in
theorem ggX4_write_X4_pageOf : GoodIn wsX4_write wsX4_pageOf := goodIn_r _ [83] (by decide +kernel) (by decide +kernel)
set_option maxRecDepth 20000 in
theorem gX4_write_X4_pageOf : GoodIn wsX4_write (va_wsS RX4 154 yX4_pageOf wsX4_pageOf) := goodIn_app (goodIn_of _ (by decide +kernel)) ggX4_write_X4_pageOf
set_option maxRecDepth 20000 in
theorem ggX4_write_X0_add : GoodIn wsX4_write wsX0_add := goodIn_r _ [130, 131, 132, 157, 158] (by decide +kernel) (by decide +kernel)
set_option maxRecDepth 20000 in
theorem gX4_write_X0_add : GoodIn wsX4_write (wsV RX4 160 RX0 yX0_add wsX0_add) := goodIn_app (goodIn_of _ (by decide +kernel)) ggX4_write_X0_add
set_option maxRecDepth 20000 in
theorem ggX4_write_X4_slotOf : GoodIn wsX4_write wsX4_slotOf := goodIn_r _ [135] (by decide +kernel) (by decide +kernel)
set_option maxRecDepth 20000 in
theorem gX4_write_X4_slotOf : GoodIn wsX4_write (va_wsS RX4 163 yX4_slotOf wsX4_slotOf) := goodIn_app (goodIn_of _ (by decide +kernel)) ggX4_write_X4_slotOf
theorem dX4_write_0 : decode cX4_write 0 = .ok (.aload_n 0, 1) := by decide +kernel
theorem dX4_write_1 : decode cX4_write 1 = .ok (.iload_n 1, 1) := by decide +kernel
theorem dX4_write_2 : decode cX4_write 2 = .ok (.invokevirtual 65, 3) := by decide +kernel
theorem dX4_write_5 : decode cX4_write 5 = .ok (.iload_n 2, 1) := by decide +kernel
theorem dX4_write_6 : decode cX4_write 6 = .ok (.invokestatic 105, 3) := by decide +kernel
theorem dX4_write_9 : decode cX4_write 9 = .ok (.iload_n 3, 1) := by decide +kernel
theorem dX4_write_10 : decode cX4_write 10 = .ok (.invokestatic 135, 3) := by decide +kernel
theorem dX4_write_13 : decode cX4_write 13 = .ok (.aload_n 0, 1) := by decide +kernel
theorem dX4_write_14 : decode cX4_write 14 = .ok (.iload_n 1, 1) := by decide +kernel
theorem dX4_write_15 : decode cX4_write 15 = .ok (.invokevirtual 69, 3) := by decide +kernel
theorem dX4_write_18 : decode cX4_write 18 = .ok (.aload_n 0, 1) := by decide +kernel
theorem dX4_write_19 : decode cX4_write 19 = .ok (.iload_n 1, 1) := by decide +kernel
theorem dX4_write_20 : decode cX4_write 20 = .ok (.iload_n 2, 1) := by decide +kernel
theorem dX4_write_21 : decode cX4_write 21 = .ok (.invokevirtual 138, 3) := by decide +kernel
theorem dX4_write_24 : decode cX4_write 24 = .ok (.aload_n 0, 1) := by decide +kernel
theorem dX4_write_25 : decode cX4_write 25 = .ok (.iload_n 1, 1) := by decide +kernel
theorem dX4_write_26 : decode cX4_write 26 = .ok (.iload_n 2, 1) := by decide +kernel
theorem dX4_write_27 : decode cX4_write 27 = .ok (.invokevirtual 108, 3) := by decide +kernel
theorem dX4_write_30 : decode cX4_write 30 = .ok (.istore 4, 2) := by decide +kernel
theorem dX4_write_32 : decode cX4_write 32 = .ok (.aload_n 0, 1) := by decide +kernel
theorem dX4_write_33 : decode cX4_write 33 = .ok (.iload 4, 2) := by decide +kernel
theorem dX4_write_35 : decode cX4_write 35 = .ok (.invokevirtual 142, 3) := by decide +kernel
theorem dX4_write_38 : decode cX4_write 38 = .ok (.istore 5, 2) := by decide +kernel
theorem dX4_write_40 : decode cX4_write 40 = .ok (.iload 5, 2) := by decide +kernel
theorem dX4_write_42 : decode cX4_write 42 = .ok (.invokestatic 111, 3) := by decide +kernel
theorem dX4_write_45 : decode cX4_write 45 = .ok (.ifCond .ne 13, 3) := by decide +kernel
theorem dX4_write_48 : decode cX4_write 48 = .ok (.new 49, 3) := by decide +kernel
theorem dX4_write_51 : decode cX4_write 51 = .ok (.dup, 1) := by decide +kernel
theorem dX4_write_52 : decode cX4_write 52 = .ok (.ldc 145, 2) := by decide +kernel
theorem dX4_write_54 : decode cX4_write 54 = .ok (.invokespecial 53, 3) := by decide +kernel
theorem dX4_write_57 : decode cX4_write 57 = .ok (.athrow, 1) := by decide +kernel
theorem dX4_write_58 : decode cX4_write 58 = .ok (.iload 4, 2) := by decide +kernel
theorem dX4_write_60 : decode cX4_write 60 = .ok (.invokestatic 111, 3) := by decide +kernel
theorem dX4_write_63 : decode cX4_write 63 = .ok (.ifCond .eq 10, 3) := by decide +kernel
theorem dX4_write_66 : decode cX4_write 66 = .ok (.aload_n 0, 1) := by decide +kernel
theorem dX4_write_67 : decode cX4_write 67 = .ok (.iload_n 1, 1) := by decide +kernel
theorem dX4_write_68 : decode cX4_write 68 = .ok (.iload 4, 2) := by decide +kernel
theorem dX4_write_70 : decode cX4_write 70 = .ok (.invokevirtual 147, 3) := by decide +kernel
theorem dX4_write_73 : decode cX4_write 73 = .ok (.aload_n 0, 1) := by decide +kernel
theorem dX4_write_74 : decode cX4_write 74 = .ok (.iload_n 1, 1) := by decide +kernel
theorem dX4_write_75 : decode cX4_write 75 = .ok (.iload_n 2, 1) := by decide +kernel
theorem dX4_write_76 : decode cX4_write 76 = .ok (.iload_n 3, 1) := by decide +kernel
theorem dX4_write_77 : decode cX4_write 77 = .ok (.iload 5, 2) := by decide +kernel
theorem dX4_write_79 : decode cX4_write 79 = .ok (.invokevirtual 150, 3) := by decide +kernel
theorem dX4_write_82 : decode cX4_write 82 = .ok (.iload 4, 2) := by decide +kernel
theorem dX4_write_84 : decode cX4_write 84 = .ok (.invokestatic 111, 3) := by decide +kernel
theorem dX4_write_87 : decode cX4_write 87 = .ok (.ifCond .eq 20, 3) := by decide +kernel
theorem dX4_write_90 : decode cX4_write 90 = .ok (.iload 4, 2) := by decide +kernel
theorem dX4_write_92 : decode cX4_write 92 = .ok (.invokestatic 154, 3) := by decide +kernel
theorem dX4_write_95 : decode cX4_write 95 = .ok (.iload 5, 2) := by decide +kernel
theorem dX4_write_97 : decode cX4_write 97 = .ok (.invokestatic 154, 3) := by decide +kernel
theorem dX4_write_100 : decode cX4_write 100 = .ok (.if_icmp .ne 7, 3) := by decide +kernel
theorem dX4_write_103 : decode cX4_write 103 = .ok (.iconst 1, 1) := by decide +kernel
theorem dX4_write_104 : decode cX4_write 104 = .ok (.goto 4, 3) := by decide +kernel
theorem dX4_write_107 : decode cX4_write 107 = .ok (.iconst 0, 1) := by decide +kernel
theorem dX4_write_108 : decode cX4_write 108 = .ok (.istore 6, 2) := by decide +kernel
theorem dX4_write_110 : decode cX4_write 110 = .ok (.iload 6, 2) := by decide +kernel
theorem dX4_write_112 : decode cX4_write 112 = .ok (.ifCond .eq 18, 3) := by decide +kernel
theorem dX4_write_115 : decode cX4_write 115 = .ok (.aload_n 0, 1) := by decide +kernel
theorem dX4_write_116 : decode cX4_write 116 = .ok (.getfield 19, 3) := by decide +kernel
theorem dX4_write_119 : decode cX4_write 119 = .ok (.getfield 157, 3) := by decide +kernel
theorem dX4_write_122 : decode cX4_write 122 = .ok (.iload 4, 2) := by decide +kernel
theorem dX4_write_124 : decode cX4_write 124 = .ok (.iload 5, 2) := by decide +kernel
theorem dX4_write_126 : decode cX4_write 126 = .ok (.iastore, 1) := by decide +kernel
theorem dX4_write_127 : decode cX4_write 127 = .ok (.goto 13, 3) := by decide +kernel
theorem dX4_write_130 : decode cX4_write 130 = .ok (.aload_n 0, 1) := by decide +kernel
theorem dX4_write_131 : decode cX4_write 131 = .ok (.getfield 26, 3) := by decide +kernel
theorem dX4_write_134 : decode cX4_write 134 = .ok (.iload_n 2, 1) := by decide +kernel
theorem dX4_write_135 : decode cX4_write 135 = .ok (.iload 5, 2) := by decide +kernel
theorem dX4_write_137 : decode cX4_write 137 = .ok (.invokevirtual 160, 3) := by decide +kernel
theorem dX4_write_140 : decode cX4_write 140 = .ok (.sipush 1000, 3) := by decide +kernel
theorem dX4_write_143 : decode cX4_write 143 = .ok (.iload 5, 2) := by decide +kernel
theorem dX4_write_145 : decode cX4_write 145 = .ok (.invokestatic 154, 3) := by decide +kernel
theorem dX4_write_148 : decode cX4_write 148 = .ok (.imul, 1) := by decide +kernel
theorem dX4_write_149 : decode cX4_write 149 = .ok (.iload 5, 2) := by decide +kernel
theorem dX4_write_151 : decode cX4_write 151 = .ok (.invokestatic 163, 3) := by decide +kernel
theorem dX4_write_154 : decode cX4_write 154 = .ok (.iadd, 1) := by decide +kernel
theorem dX4_write_155 : decode cX4_write 155 = .ok (.iload 6, 2) := by decide +kernel
theorem dX4_write_157 : decode cX4_write 157 = .ok (.ifCond .eq 8, 3) := by decide +kernel
theorem dX4_write_160 : decode cX4_write 160 = .ok (.ldc 166, 2) := by decide +kernel
theorem dX4_write_162 : decode cX4_write 162 = .ok (.goto 4, 3) := by decide +kernel
theorem dX4_write_165 : decode cX4_write 165 = .ok (.iconst 0, 1) := by decide +kernel
theorem dX4_write_166 : decode cX4_write 166 = .ok (.iadd, 1) := by decide +kernel
theorem dX4_write_167 : decode cX4_write 167 = .ok (.ireturn, 1) := by decide +kernel
set_option maxRecDepth 20000 in
theorem ggX4_delete_X4_checkTransaction : GoodIn wsX4_delete wsX4_checkTransaction := goodIn_ca (goodIn_r _ [5, 6, 7, 8, 9, 10, 11, 12, 13, 14, 92, 93, 94, 95, 96, 97, 98, 99, 100, 101, 102, 103] (by decide +kernel) (by decide +kernel)) (goodIn_sub (fun _ h => List.mem_cons_of_mem _ (List.mem_append_left _ (List.mem_append_left _ (List.mem_append_right _ h)))) (by decide +kernel))
set_option maxRecDepth 20000 in
theorem gX4_delete_X4_checkTransaction : GoodIn wsX4_delete (wsV RX4 65 RX4 yX4_checkTransaction wsX4_checkTransaction) := goodIn_app (goodIn_of _ (by decide +kernel)) ggX4_delete_X4_checkTransaction
set_option maxRecDepth 20000 in
theorem ggX4_delete_X4_checkKey : GoodIn wsX4_delete wsX4_checkKey := goodIn_ca (goodIn_r _ [17, 18, 19] (by decide +kernel) (by decide +kernel)) (goodIn_sub (fun _ h => List.mem_cons_of_mem _ (List.mem_append_left _ (List.mem_append_right _ h))) (by decide +kernel))
set_option maxRecDepth 20000 in
theorem gX4_delete_X4_checkKey : GoodIn wsX4_delete (va_wsS RX4 105 yX4_checkKey wsX4_checkKey) := goodIn_app (goodIn_of _ (by decide +kernel)) ggX4_delete_X4_checkKey
set_option maxRecDepth 20000 in
theorem ggX4_delete_X4_checkActive : GoodIn wsX4_delete wsX4_checkActive := goodIn_ca (goodIn_r _ [23, 24, 25, 8, 26, 27, 28, 12, 29, 30, 31, 32, 33, 92, 93, 94, 95, 96, 97, 98, 99, 100, 101, 102, 103] (by decide +kernel) (by decide +kernel)) (goodIn_sub (fun _ h => List.mem_cons_of_mem _ (List.mem_append_right _ h)) (by decide +kernel))
set_option maxRecDepth 20000 in
theorem gX4_delete_X4_checkActive : GoodIn wsX4_delete (wsV RX4 69 RX4 yX4_checkActive wsX4_checkActive) := goodIn_app (goodIn_of _ (by decide +kernel)) ggX4_delete_X4_checkActive
set_option maxRecDepth 20000 in
theorem ggX4_delete_X4_seenPlace : GoodIn wsX4_delete wsX4_seenPlace := goodIn_r _ [37, 38, 39, 40, 41, 42, 43, 4, 44, 45, 46, 47, 48, 49, 50, 51, 52, 53, 54, 8, 55, 56, 57, 58, 59, 12, 60, 61, 31, 32, 33, 92, 93, 94, 95, 96, 97, 104, 105, 106, 107, 108, 109, 110, 111, 112, 113, 114, 98, 99, 100, 101, 102, 103] (by decide +kernel) (by decide +kernel)
set_option maxRecDepth 20000 in
theorem gX4_delete_X4_seenPlace : GoodIn wsX4_delete (wsV RX4 108 RX4 yX4_seenPlace wsX4_seenPlace) := goodIn_app (goodIn_of _ (by decide +kernel)) ggX4_delete_X4_seenPlace
set_option maxRecDepth 20000 in
theorem ggX4_delete_X4_isPlace : GoodIn wsX4_delete wsX4_isPlace := goodIn_r _ [49] (by decide +kernel) (by decide +kernel)
set_option maxRecDepth 20000 in
theorem gX4_delete_X4_isPlace : GoodIn wsX4_delete (va_wsS RX4 111 yX4_isPlace wsX4_isPlace) := goodIn_app (goodIn_of _ (by decide +kernel)) ggX4_delete_X4_isPlace
set_option maxRecDepth 20000 in
theorem ggX4_delete_X4_checkNotRefused : GoodIn wsX4_delete wsX4_checkNotRefused := goodIn_ca (goodIn_r _ [65, 24, 25, 45, 66, 8, 55, 56, 67, 68, 69, 12, 70, 30, 71, 31, 32, 33, 72, 58, 59, 60, 61, 92, 93, 94, 95, 96, 97, 106, 107, 108, 109, 110, 111, 112, 113, 114, 98, 99, 100, 101, 102, 103] (by decide +kernel) (by decide +kernel)) (goodIn_sub (fun _ h => List.mem_cons_of_mem _ (List.mem_append_right _ h)) (by decide +kernel))
set_option maxRecDepth 20000 in
theorem gX4_delete_X4_checkNotRefused : GoodIn wsX4_delete (wsV RX4 138 RX4 yX4_checkNotRefused wsX4_checkNotRefused) := goodIn_app (goodIn_of _ (by decide +kernel)) ggX4_delete_X4_checkNotRefused
set_option maxRecDepth 20000 in
theorem ggX4_delete_X4_putDeath : GoodIn wsX4_delete wsX4_putDeath := goodIn_r _ [76, 45, 56, 77, 8, 78, 79, 80, 81, 82, 83, 84, 85, 86, 87, 88, 89, 90, 4, 91, 92, 93, 94, 95, 96, 97, 106, 107, 108, 109, 110, 111, 112, 113, 114, 98, 99, 100, 101, 102, 103, 115, 116, 117, 118, 119] (by decide +kernel) (by decide +kernel)
set_option maxRecDepth 20000 in
theorem gX4_delete_X4_putDeath : GoodIn wsX4_delete (wsV RX4 147 RX4 yX4_putDeath wsX4_putDeath) := goodIn_app (goodIn_of _ (by decide +kernel)) ggX4_delete_X4_putDeath
theorem dX4_delete_0 : decode cX4_delete 0 = .ok (.aload_n 0, 1) := by decide +kernel
theorem dX4_delete_1 : decode cX4_delete 1 = .ok (.iload_n 1, 1) := by decide +kernel
theorem dX4_delete_2 : decode cX4_delete 2 = .ok (.invokevirtual 65, 3) := by decide +kernel
theorem dX4_delete_5 : decode cX4_delete 5 = .ok (.iload_n 2, 1) := by decide +kernel
theorem dX4_delete_6 : decode cX4_delete 6 = .ok (.invokestatic 105, 3) := by decide +kernel
theorem dX4_delete_9 : decode cX4_delete 9 = .ok (.aload_n 0, 1) := by decide +kernel
theorem dX4_delete_10 : decode cX4_delete 10 = .ok (.iload_n 1, 1) := by decide +kernel
theorem dX4_delete_11 : decode cX4_delete 11 = .ok (.invokevirtual 69, 3) := by decide +kernel
theorem dX4_delete_14 : decode cX4_delete 14 = .ok (.aload_n 0, 1) := by decide +kernel
theorem dX4_delete_15 : decode cX4_delete 15 = .ok (.iload_n 1, 1) := by decide +kernel
theorem dX4_delete_16 : decode cX4_delete 16 = .ok (.iload_n 2, 1) := by decide +kernel
theorem dX4_delete_17 : decode cX4_delete 17 = .ok (.invokevirtual 108, 3) := by decide +kernel
theorem dX4_delete_20 : decode cX4_delete 20 = .ok (.istore_n 3, 1) := by decide +kernel
theorem dX4_delete_21 : decode cX4_delete 21 = .ok (.iload_n 3, 1) := by decide +kernel
theorem dX4_delete_22 : decode cX4_delete 22 = .ok (.invokestatic 111, 3) := by decide +kernel
theorem dX4_delete_25 : decode cX4_delete 25 = .ok (.ifCond .ne 5, 3) := by decide +kernel
theorem dX4_delete_28 : decode cX4_delete 28 = .ok (.iconst 0, 1) := by decide +kernel
theorem dX4_delete_29 : decode cX4_delete 29 = .ok (.ireturn, 1) := by decide +kernel
theorem dX4_delete_30 : decode cX4_delete 30 = .ok (.aload_n 0, 1) := by decide +kernel
theorem dX4_delete_31 : decode cX4_delete 31 = .ok (.iload_n 1, 1) := by decide +kernel
theorem dX4_delete_32 : decode cX4_delete 32 = .ok (.iload_n 2, 1) := by decide +kernel
theorem dX4_delete_33 : decode cX4_delete 33 = .ok (.invokevirtual 138, 3) := by decide +kernel
theorem dX4_delete_36 : decode cX4_delete 36 = .ok (.aload_n 0, 1) := by decide +kernel
theorem dX4_delete_37 : decode cX4_delete 37 = .ok (.iload_n 1, 1) := by decide +kernel
theorem dX4_delete_38 : decode cX4_delete 38 = .ok (.iload_n 3, 1) := by decide +kernel
theorem dX4_delete_39 : decode cX4_delete 39 = .ok (.invokevirtual 147, 3) := by decide +kernel
theorem dX4_delete_42 : decode cX4_delete 42 = .ok (.iconst 1, 1) := by decide +kernel
theorem dX4_delete_43 : decode cX4_delete 43 = .ok (.ireturn, 1) := by decide +kernel
set_option maxRecDepth 20000 in
theorem ggX4_clean_X4_checkPage : GoodIn wsX4_clean wsX4_checkPage := goodIn_ca (goodIn_r _ [6, 7, 8] (by decide +kernel) (by decide +kernel)) (goodIn_sub (fun _ h => List.mem_cons_of_mem _ (List.mem_append_right _ h)) (by decide +kernel))
set_option maxRecDepth 20000 in
theorem gX4_clean_X4_checkPage : GoodIn wsX4_clean (va_wsS RX4 167 yX4_checkPage wsX4_checkPage) := goodIn_app (goodIn_of _ (by decide +kernel)) ggX4_clean_X4_checkPage
set_option maxRecDepth 20000 in
theorem ggX4_clean_X3_settled : GoodIn wsX4_clean wsX3_settled := goodIn_r _ [13, 14, 15, 16, 17, 18, 19, 12, 20, 21, 22, 23, 24, 113, 114, 115, 116, 117, 118] (by decide +kernel) (by decide +kernel)
set_option maxRecDepth 20000 in
theorem gX4_clean_X3_settled : GoodIn wsX4_clean (wsV RX4 170 RX3 yX3_settled wsX3_settled) := goodIn_app (goodIn_of _ (by decide +kernel)) ggX4_clean_X3_settled
set_option maxRecDepth 20000 in
theorem ggX4_clean_X4_firstOf : GoodIn wsX4_clean wsX4_firstOf := goodIn_r _ [27] (by decide +kernel) (by decide +kernel)
set_option maxRecDepth 20000 in
theorem gX4_clean_X4_firstOf : GoodIn wsX4_clean (va_wsS RX4 174 yX4_firstOf wsX4_firstOf) := goodIn_app (goodIn_of _ (by decide +kernel)) ggX4_clean_X4_firstOf
set_option maxRecDepth 20000 in
theorem ggX4_clean_X4_canGo : GoodIn wsX4_clean wsX4_canGo := goodIn_r _ [31, 32, 1, 33, 34, 35, 36, 37, 38, 39, 40, 41, 42, 43, 12, 44, 21, 14, 45, 46, 47, 48, 15, 22, 23, 24, 49, 107, 108, 109, 110, 111, 112, 119, 120, 121, 122, 123, 124, 125, 126, 127, 113, 114, 115, 116, 117, 118] (by decide +kernel) (by decide +kernel)
set_option maxRecDepth 20000 in
theorem gX4_clean_X4_canGo : GoodIn wsX4_clean (wsV RX4 177 RX4 yX4_canGo wsX4_canGo) := goodIn_app (goodIn_of _ (by decide +kernel)) ggX4_clean_X4_canGo
set_option maxRecDepth 20000 in
theorem ggX4_clean_X4_takeOut : GoodIn wsX4_clean wsX4_takeOut := goodIn_r _ [53, 32, 54, 55, 56, 57, 58, 59, 38, 60, 61, 62, 63, 64, 65, 66, 67, 68, 69, 70, 71, 72, 40, 73, 74, 75, 76, 107, 108, 109, 110, 111, 112, 119, 120, 121, 122, 123, 124, 125, 126, 127, 128, 129] (by decide +kernel) (by decide +kernel)
set_option maxRecDepth 20000 in
theorem gX4_clean_X4_takeOut : GoodIn wsX4_clean (wsV RX4 181 RX4 yX4_takeOut wsX4_takeOut) := goodIn_app (goodIn_of _ (by decide +kernel)) ggX4_clean_X4_takeOut
set_option maxRecDepth 20000 in
theorem ggX4_clean_X4_freezeOldOnes : GoodIn wsX4_clean wsX4_freezeOldOnes := goodIn_r _ [80, 32, 1, 81, 82, 33, 83, 25, 26, 5, 27, 35, 36, 37, 38, 39, 40, 84, 85, 86, 12, 87, 88, 89, 90, 91, 92, 93, 94, 49, 23, 24, 107, 108, 109, 110, 111, 112, 119, 120, 121, 122, 123, 124, 125, 126, 127, 113, 114, 115, 116, 117, 118] (by decide +kernel) (by decide +kernel)
set_option maxRecDepth 20000 in
theorem gX4_clean_X4_freezeOldOnes : GoodIn wsX4_clean (wsV RX4 184 RX4 yX4_freezeOldOnes wsX4_freezeOldOnes) := goodIn_app (goodIn_of _ (by decide +kernel)) ggX4_clean_X4_freezeOldOnes
set_option maxRecDepth 20000 in
theorem ggX4_clean_X4_isWhole : GoodIn wsX4_clean wsX4_isWhole := goodIn_ca (goodIn_r _ [98, 1, 32, 3, 4, 5, 6, 7, 8, 9, 10, 11, 12, 13, 14, 15, 16, 17, 18, 19, 20, 21, 22, 23, 24, 25, 26, 27, 35, 36, 37, 38, 39, 40, 99, 100, 101, 102, 83, 33, 103, 104, 105, 106, 75, 49, 107, 108, 109, 110, 111, 112, 113, 114, 115, 116, 117, 118, 119, 120, 121, 122, 123, 124, 125, 126, 127] (by decide +kernel) (by decide +kernel)) (goodIn_sub (fun _ h => List.mem_cons_of_mem _ (List.mem_append_right _ h)) (by decide +kernel))
set_option maxRecDepth 20000 in
theorem gX4_clean_X4_isWhole : GoodIn wsX4_clean (wsV RX4 188 RX4 yX4_isWhole wsX4_isWhole) := goodIn_app (goodIn_of _ (by decide +kernel)) ggX4_clean_X4_isWhole
theorem dX4_clean_0 : decode cX4_clean 0 = .ok (.iload_n 1, 1) := by decide +kernel
theorem dX4_clean_1 : decode cX4_clean 1 = .ok (.invokestatic 167, 3) := by decide +kernel
theorem dX4_clean_4 : decode cX4_clean 4 = .ok (.aload_n 0, 1) := by decide +kernel
theorem dX4_clean_5 : decode cX4_clean 5 = .ok (.getfield 12, 3) := by decide +kernel
theorem dX4_clean_8 : decode cX4_clean 8 = .ok (.invokevirtual 170, 3) := by decide +kernel
theorem dX4_clean_11 : decode cX4_clean 11 = .ok (.lstore_n 2, 1) := by decide +kernel
theorem dX4_clean_12 : decode cX4_clean 12 = .ok (.iconst 0, 1) := by decide +kernel
theorem dX4_clean_13 : decode cX4_clean 13 = .ok (.istore 4, 2) := by decide +kernel
theorem dX4_clean_15 : decode cX4_clean 15 = .ok (.iload_n 1, 1) := by decide +kernel
theorem dX4_clean_16 : decode cX4_clean 16 = .ok (.invokestatic 174, 3) := by decide +kernel
theorem dX4_clean_19 : decode cX4_clean 19 = .ok (.istore 5, 2) := by decide +kernel
theorem dX4_clean_21 : decode cX4_clean 21 = .ok (.iload 5, 2) := by decide +kernel
theorem dX4_clean_23 : decode cX4_clean 23 = .ok (.iload_n 1, 1) := by decide +kernel
theorem dX4_clean_24 : decode cX4_clean 24 = .ok (.invokestatic 174, 3) := by decide +kernel
theorem dX4_clean_27 : decode cX4_clean 27 = .ok (.bipush 8, 2) := by decide +kernel
theorem dX4_clean_29 : decode cX4_clean 29 = .ok (.iadd, 1) := by decide +kernel
theorem dX4_clean_30 : decode cX4_clean 30 = .ok (.if_icmp .ge 28, 3) := by decide +kernel
theorem dX4_clean_33 : decode cX4_clean 33 = .ok (.aload_n 0, 1) := by decide +kernel
theorem dX4_clean_34 : decode cX4_clean 34 = .ok (.iload 5, 2) := by decide +kernel
theorem dX4_clean_36 : decode cX4_clean 36 = .ok (.lload_n 2, 1) := by decide +kernel
theorem dX4_clean_37 : decode cX4_clean 37 = .ok (.invokevirtual 177, 3) := by decide +kernel
theorem dX4_clean_40 : decode cX4_clean 40 = .ok (.ifCond .eq 12, 3) := by decide +kernel
theorem dX4_clean_43 : decode cX4_clean 43 = .ok (.aload_n 0, 1) := by decide +kernel
theorem dX4_clean_44 : decode cX4_clean 44 = .ok (.iload 5, 2) := by decide +kernel
theorem dX4_clean_46 : decode cX4_clean 46 = .ok (.invokevirtual 181, 3) := by decide +kernel
theorem dX4_clean_49 : decode cX4_clean 49 = .ok (.iinc 4 1, 3) := by decide +kernel
theorem dX4_clean_52 : decode cX4_clean 52 = .ok (.iinc 5 1, 3) := by decide +kernel
theorem dX4_clean_55 : decode cX4_clean 55 = .ok (.goto (-34), 3) := by decide +kernel
theorem dX4_clean_58 : decode cX4_clean 58 = .ok (.aload_n 0, 1) := by decide +kernel
theorem dX4_clean_59 : decode cX4_clean 59 = .ok (.iload_n 1, 1) := by decide +kernel
theorem dX4_clean_60 : decode cX4_clean 60 = .ok (.lload_n 2, 1) := by decide +kernel
theorem dX4_clean_61 : decode cX4_clean 61 = .ok (.invokevirtual 184, 3) := by decide +kernel
theorem dX4_clean_64 : decode cX4_clean 64 = .ok (.aload_n 0, 1) := by decide +kernel
theorem dX4_clean_65 : decode cX4_clean 65 = .ok (.getfield 37, 3) := by decide +kernel
theorem dX4_clean_68 : decode cX4_clean 68 = .ok (.iload_n 1, 1) := by decide +kernel
theorem dX4_clean_69 : decode cX4_clean 69 = .ok (.aload_n 0, 1) := by decide +kernel
theorem dX4_clean_70 : decode cX4_clean 70 = .ok (.iload_n 1, 1) := by decide +kernel
theorem dX4_clean_71 : decode cX4_clean 71 = .ok (.invokevirtual 188, 3) := by decide +kernel
theorem dX4_clean_74 : decode cX4_clean 74 = .ok (.bastore, 1) := by decide +kernel
theorem dX4_clean_75 : decode cX4_clean 75 = .ok (.iload 4, 2) := by decide +kernel
theorem dX4_clean_77 : decode cX4_clean 77 = .ok (.ireturn, 1) := by decide +kernel
theorem dX4_setFreezing_0 : decode cX4_setFreezing 0 = .ok (.iload_n 1, 1) := by decide +kernel
theorem dX4_setFreezing_1 : decode cX4_setFreezing 1 = .ok (.iconst 1, 1) := by decide +kernel
theorem dX4_setFreezing_2 : decode cX4_setFreezing 2 = .ok (.if_icmp .lt 9, 3) := by decide +kernel
theorem dX4_setFreezing_5 : decode cX4_setFreezing 5 = .ok (.iload_n 1, 1) := by decide +kernel
theorem dX4_setFreezing_6 : decode cX4_setFreezing 6 = .ok (.bipush 27, 2) := by decide +kernel
theorem dX4_setFreezing_8 : decode cX4_setFreezing 8 = .ok (.if_icmp .le 13, 3) := by decide +kernel
theorem dX4_setFreezing_11 : decode cX4_setFreezing 11 = .ok (.new 83, 3) := by decide +kernel
theorem dX4_setFreezing_14 : decode cX4_setFreezing 14 = .ok (.dup, 1) := by decide +kernel
theorem dX4_setFreezing_15 : decode cX4_setFreezing 15 = .ok (.ldc 191, 2) := by decide +kernel
theorem dX4_setFreezing_17 : decode cX4_setFreezing 17 = .ok (.invokespecial 87, 3) := by decide +kernel
theorem dX4_setFreezing_20 : decode cX4_setFreezing 20 = .ok (.athrow, 1) := by decide +kernel
theorem dX4_setFreezing_21 : decode cX4_setFreezing 21 = .ok (.aload_n 0, 1) := by decide +kernel
theorem dX4_setFreezing_22 : decode cX4_setFreezing 22 = .ok (.getfield 41, 3) := by decide +kernel
theorem dX4_setFreezing_25 : decode cX4_setFreezing 25 = .ok (.istore_n 2, 1) := by decide +kernel
theorem dX4_setFreezing_26 : decode cX4_setFreezing 26 = .ok (.aload_n 0, 1) := by decide +kernel
theorem dX4_setFreezing_27 : decode cX4_setFreezing 27 = .ok (.iload_n 1, 1) := by decide +kernel
theorem dX4_setFreezing_28 : decode cX4_setFreezing 28 = .ok (.putfield 41, 3) := by decide +kernel
theorem dX4_setFreezing_31 : decode cX4_setFreezing 31 = .ok (.iload_n 2, 1) := by decide +kernel
theorem dX4_setFreezing_32 : decode cX4_setFreezing 32 = .ok (.ireturn, 1) := by decide +kernel
set_option maxRecDepth 20000 in
theorem ggX4_isMapped_X4_checkPage : GoodIn wsX4_isMapped wsX4_checkPage := goodIn_ca (goodIn_r _ [5, 6, 7] (by decide +kernel) (by decide +kernel)) (goodIn_sub (fun _ h => List.mem_cons_of_mem _ (List.mem_append_right _ h)) (by decide +kernel))
set_option maxRecDepth 20000 in
theorem gX4_isMapped_X4_checkPage : GoodIn wsX4_isMapped (va_wsS RX4 167 yX4_checkPage wsX4_checkPage) := goodIn_app (goodIn_of _ (by decide +kernel)) ggX4_isMapped_X4_checkPage
theorem dX4_isMapped_0 : decode cX4_isMapped 0 = .ok (.iload_n 1, 1) := by decide +kernel
theorem dX4_isMapped_1 : decode cX4_isMapped 1 = .ok (.invokestatic 167, 3) := by decide +kernel
theorem dX4_isMapped_4 : decode cX4_isMapped 4 = .ok (.aload_n 0, 1) := by decide +kernel
theorem dX4_isMapped_5 : decode cX4_isMapped 5 = .ok (.getfield 37, 3) := by decide +kernel
theorem dX4_isMapped_8 : decode cX4_isMapped 8 = .ok (.iload_n 1, 1) := by decide +kernel
theorem dX4_isMapped_9 : decode cX4_isMapped 9 = .ok (.baload, 1) := by decide +kernel
theorem dX4_isMapped_10 : decode cX4_isMapped 10 = .ok (.ireturn, 1) := by decide +kernel
set_option maxRecDepth 20000 in
theorem ggX4_isWhole_X4_checkPage : GoodIn wsX4_isWhole wsX4_checkPage := goodIn_ca (goodIn_r _ [6, 7, 8] (by decide +kernel) (by decide +kernel)) (goodIn_sub (fun _ h => List.mem_cons_of_mem _ (List.mem_append_right _ h)) (by decide +kernel))
set_option maxRecDepth 20000 in
theorem gX4_isWhole_X4_checkPage : GoodIn wsX4_isWhole (va_wsS RX4 167 yX4_checkPage wsX4_checkPage) := goodIn_app (goodIn_of _ (by decide +kernel)) ggX4_isWhole_X4_checkPage
set_option maxRecDepth 20000 in
theorem ggX4_isWhole_X3_settled : GoodIn wsX4_isWhole wsX3_settled := goodIn_r _ [13, 14, 15, 16, 17, 18, 19, 12, 20, 21, 22, 23, 24, 52, 53, 54, 55, 56, 57] (by decide +kernel) (by decide +kernel)
set_option maxRecDepth 20000 in
theorem gX4_isWhole_X3_settled : GoodIn wsX4_isWhole (wsV RX4 170 RX3 yX3_settled wsX3_settled) := goodIn_app (goodIn_of _ (by decide +kernel)) ggX4_isWhole_X3_settled
set_option maxRecDepth 20000 in
theorem ggX4_isWhole_X4_firstOf : GoodIn wsX4_isWhole wsX4_firstOf := goodIn_r _ [27] (by decide +kernel) (by decide +kernel)
set_option maxRecDepth 20000 in
theorem gX4_isWhole_X4_firstOf : GoodIn wsX4_isWhole (va_wsS RX4 174 yX4_firstOf wsX4_firstOf) := goodIn_app (goodIn_of _ (by decide +kernel)) ggX4_isWhole_X4_firstOf
set_option maxRecDepth 20000 in
theorem ggX4_isWhole_X1_isUsed : GoodIn wsX4_isWhole wsX1_isUsed := goodIn_r _ [32, 33, 58, 59, 60, 61, 62, 63, 64, 65, 66] (by decide +kernel) (by decide +kernel)
set_option maxRecDepth 20000 in
theorem gX4_isWhole_X1_isUsed : GoodIn wsX4_isWhole (wsV RX4 193 RX1 yX1_isUsed wsX1_isUsed) := goodIn_app (goodIn_of _ (by decide +kernel)) ggX4_isWhole_X1_isUsed
set_option maxRecDepth 20000 in
theorem ggX4_isWhole_X4_isSeenByAll : GoodIn wsX4_isWhole wsX4_isSeenByAll := goodIn_r _ [37, 2, 38, 39, 40, 41, 42, 31, 43, 44, 45, 23, 12, 24, 46, 47, 48, 49, 50, 51, 58, 59, 60, 61, 62, 63, 64, 65, 66] (by decide +kernel) (by decide +kernel)
set_option maxRecDepth 20000 in
theorem gX4_isWhole_X4_isSeenByAll : GoodIn wsX4_isWhole (wsV RX4 196 RX4 yX4_isSeenByAll wsX4_isSeenByAll) := goodIn_app (goodIn_of _ (by decide +kernel)) ggX4_isWhole_X4_isSeenByAll
theorem dX4_isWhole_0 : decode cX4_isWhole 0 = .ok (.iload_n 1, 1) := by decide +kernel
theorem dX4_isWhole_1 : decode cX4_isWhole 1 = .ok (.invokestatic 167, 3) := by decide +kernel
theorem dX4_isWhole_4 : decode cX4_isWhole 4 = .ok (.aload_n 0, 1) := by decide +kernel
theorem dX4_isWhole_5 : decode cX4_isWhole 5 = .ok (.getfield 12, 3) := by decide +kernel
theorem dX4_isWhole_8 : decode cX4_isWhole 8 = .ok (.invokevirtual 170, 3) := by decide +kernel
theorem dX4_isWhole_11 : decode cX4_isWhole 11 = .ok (.lstore_n 2, 1) := by decide +kernel
theorem dX4_isWhole_12 : decode cX4_isWhole 12 = .ok (.iload_n 1, 1) := by decide +kernel
theorem dX4_isWhole_13 : decode cX4_isWhole 13 = .ok (.invokestatic 174, 3) := by decide +kernel
theorem dX4_isWhole_16 : decode cX4_isWhole 16 = .ok (.istore 4, 2) := by decide +kernel
theorem dX4_isWhole_18 : decode cX4_isWhole 18 = .ok (.iload 4, 2) := by decide +kernel
theorem dX4_isWhole_20 : decode cX4_isWhole 20 = .ok (.iload_n 1, 1) := by decide +kernel
theorem dX4_isWhole_21 : decode cX4_isWhole 21 = .ok (.invokestatic 174, 3) := by decide +kernel
theorem dX4_isWhole_24 : decode cX4_isWhole 24 = .ok (.bipush 8, 2) := by decide +kernel
theorem dX4_isWhole_26 : decode cX4_isWhole 26 = .ok (.iadd, 1) := by decide +kernel
theorem dX4_isWhole_27 : decode cX4_isWhole 27 = .ok (.if_icmp .ge 33, 3) := by decide +kernel
theorem dX4_isWhole_30 : decode cX4_isWhole 30 = .ok (.aload_n 0, 1) := by decide +kernel
theorem dX4_isWhole_31 : decode cX4_isWhole 31 = .ok (.getfield 19, 3) := by decide +kernel
theorem dX4_isWhole_34 : decode cX4_isWhole 34 = .ok (.iload 4, 2) := by decide +kernel
theorem dX4_isWhole_36 : decode cX4_isWhole 36 = .ok (.invokevirtual 193, 3) := by decide +kernel
theorem dX4_isWhole_39 : decode cX4_isWhole 39 = .ok (.ifCond .eq 15, 3) := by decide +kernel
theorem dX4_isWhole_42 : decode cX4_isWhole 42 = .ok (.aload_n 0, 1) := by decide +kernel
theorem dX4_isWhole_43 : decode cX4_isWhole 43 = .ok (.iload 4, 2) := by decide +kernel
theorem dX4_isWhole_45 : decode cX4_isWhole 45 = .ok (.lload_n 2, 1) := by decide +kernel
theorem dX4_isWhole_46 : decode cX4_isWhole 46 = .ok (.invokevirtual 196, 3) := by decide +kernel
theorem dX4_isWhole_49 : decode cX4_isWhole 49 = .ok (.ifCond .ne 5, 3) := by decide +kernel
theorem dX4_isWhole_52 : decode cX4_isWhole 52 = .ok (.iconst 0, 1) := by decide +kernel
theorem dX4_isWhole_53 : decode cX4_isWhole 53 = .ok (.ireturn, 1) := by decide +kernel
theorem dX4_isWhole_54 : decode cX4_isWhole 54 = .ok (.iinc 4 1, 3) := by decide +kernel
theorem dX4_isWhole_57 : decode cX4_isWhole 57 = .ok (.goto (-39), 3) := by decide +kernel
theorem dX4_isWhole_60 : decode cX4_isWhole 60 = .ok (.iconst 1, 1) := by decide +kernel
theorem dX4_isWhole_61 : decode cX4_isWhole 61 = .ok (.ireturn, 1) := by decide +kernel
set_option maxRecDepth 20000 in
theorem ggX4_slot_X4_checkPage : GoodIn wsX4_slot wsX4_checkPage := goodIn_ca (goodIn_r _ [8, 9, 10] (by decide +kernel) (by decide +kernel)) (goodIn_sub (fun _ h => List.mem_cons_of_mem _ (List.mem_append_right _ h)) (by decide +kernel))
set_option maxRecDepth 20000 in
theorem gX4_slot_X4_checkPage : GoodIn wsX4_slot (va_wsS RX4 167 yX4_checkPage wsX4_checkPage) := goodIn_app (goodIn_of _ (by decide +kernel)) ggX4_slot_X4_checkPage
set_option maxRecDepth 20000 in
theorem ggX4_slot_X4_checkSlot : GoodIn wsX4_slot wsX4_checkSlot := goodIn_ca (goodIn_r _ [13, 9, 10] (by decide +kernel) (by decide +kernel)) (goodIn_sub (fun _ h => List.mem_cons_of_mem _ (List.mem_append_right _ h)) (by decide +kernel))
set_option maxRecDepth 20000 in
theorem gX4_slot_X4_checkSlot : GoodIn wsX4_slot (va_wsS RX4 199 yX4_checkSlot wsX4_checkSlot) := goodIn_app (goodIn_of _ (by decide +kernel)) ggX4_slot_X4_checkSlot
set_option maxRecDepth 20000 in
theorem ggX4_slot_X4_firstOf : GoodIn wsX4_slot wsX4_firstOf := goodIn_r _ [16] (by decide +kernel) (by decide +kernel)
set_option maxRecDepth 20000 in
theorem gX4_slot_X4_firstOf : GoodIn wsX4_slot (va_wsS RX4 174 yX4_firstOf wsX4_firstOf) := goodIn_app (goodIn_of _ (by decide +kernel)) ggX4_slot_X4_firstOf
set_option maxRecDepth 20000 in
theorem ggX4_slot_X1_isUsed : GoodIn wsX4_slot wsX1_isUsed := goodIn_r _ [21, 22, 40, 41, 42, 43, 44, 45, 46, 47, 48] (by decide +kernel) (by decide +kernel)
set_option maxRecDepth 20000 in
theorem gX4_slot_X1_isUsed : GoodIn wsX4_slot (wsV RX4 193 RX1 yX1_isUsed wsX1_isUsed) := goodIn_app (goodIn_of _ (by decide +kernel)) ggX4_slot_X1_isUsed
set_option maxRecDepth 20000 in
theorem ggX4_slot_X1_hasDeath : GoodIn wsX4_slot wsX1_hasDeath := goodIn_r _ [26, 27, 40, 41, 42, 43, 44, 45, 46, 47, 48] (by decide +kernel) (by decide +kernel)
set_option maxRecDepth 20000 in
theorem gX4_slot_X1_hasDeath : GoodIn wsX4_slot (wsV RX4 206 RX1 yX1_hasDeath wsX1_hasDeath) := goodIn_app (goodIn_of _ (by decide +kernel)) ggX4_slot_X1_hasDeath
set_option maxRecDepth 20000 in
theorem ggX4_slot_X4_isPlace : GoodIn wsX4_slot wsX4_isPlace := goodIn_r _ [30] (by decide +kernel) (by decide +kernel)
set_option maxRecDepth 20000 in
theorem gX4_slot_X4_isPlace : GoodIn wsX4_slot (va_wsS RX4 111 yX4_isPlace wsX4_isPlace) := goodIn_app (goodIn_of _ (by decide +kernel)) ggX4_slot_X4_isPlace
set_option maxRecDepth 20000 in
theorem ggX4_slot_X4_slotOf : GoodIn wsX4_slot wsX4_slotOf := goodIn_r _ [33] (by decide +kernel) (by decide +kernel)
set_option maxRecDepth 20000 in
theorem gX4_slot_X4_slotOf : GoodIn wsX4_slot (va_wsS RX4 163 yX4_slotOf wsX4_slotOf) := goodIn_app (goodIn_of _ (by decide +kernel)) ggX4_slot_X4_slotOf
theorem dX4_slot_0 : decode cX4_slot 0 = .ok (.iload_n 1, 1) := by decide +kernel
theorem dX4_slot_1 : decode cX4_slot 1 = .ok (.invokestatic 167, 3) := by decide +kernel
theorem dX4_slot_4 : decode cX4_slot 4 = .ok (.iload_n 2, 1) := by decide +kernel
theorem dX4_slot_5 : decode cX4_slot 5 = .ok (.invokestatic 199, 3) := by decide +kernel
theorem dX4_slot_8 : decode cX4_slot 8 = .ok (.iload_n 1, 1) := by decide +kernel
theorem dX4_slot_9 : decode cX4_slot 9 = .ok (.invokestatic 174, 3) := by decide +kernel
theorem dX4_slot_12 : decode cX4_slot 12 = .ok (.iload_n 2, 1) := by decide +kernel
theorem dX4_slot_13 : decode cX4_slot 13 = .ok (.iadd, 1) := by decide +kernel
theorem dX4_slot_14 : decode cX4_slot 14 = .ok (.istore_n 3, 1) := by decide +kernel
theorem dX4_slot_15 : decode cX4_slot 15 = .ok (.aload_n 0, 1) := by decide +kernel
theorem dX4_slot_16 : decode cX4_slot 16 = .ok (.getfield 19, 3) := by decide +kernel
theorem dX4_slot_19 : decode cX4_slot 19 = .ok (.iload_n 3, 1) := by decide +kernel
theorem dX4_slot_20 : decode cX4_slot 20 = .ok (.invokevirtual 193, 3) := by decide +kernel
theorem dX4_slot_23 : decode cX4_slot 23 = .ok (.ifCond .ne 5, 3) := by decide +kernel
theorem dX4_slot_26 : decode cX4_slot 26 = .ok (.iconst (-1), 1) := by decide +kernel
theorem dX4_slot_27 : decode cX4_slot 27 = .ok (.ireturn, 1) := by decide +kernel
theorem dX4_slot_28 : decode cX4_slot 28 = .ok (.aload_n 0, 1) := by decide +kernel
theorem dX4_slot_29 : decode cX4_slot 29 = .ok (.getfield 19, 3) := by decide +kernel
theorem dX4_slot_32 : decode cX4_slot 32 = .ok (.getfield 202, 3) := by decide +kernel
theorem dX4_slot_35 : decode cX4_slot 35 = .ok (.iload_n 3, 1) := by decide +kernel
theorem dX4_slot_36 : decode cX4_slot 36 = .ok (.iaload, 1) := by decide +kernel
theorem dX4_slot_37 : decode cX4_slot 37 = .ok (.istore 4, 2) := by decide +kernel
theorem dX4_slot_39 : decode cX4_slot 39 = .ok (.aload_n 0, 1) := by decide +kernel
theorem dX4_slot_40 : decode cX4_slot 40 = .ok (.getfield 19, 3) := by decide +kernel
theorem dX4_slot_43 : decode cX4_slot 43 = .ok (.getfield 203, 3) := by decide +kernel
theorem dX4_slot_46 : decode cX4_slot 46 = .ok (.iload_n 3, 1) := by decide +kernel
theorem dX4_slot_47 : decode cX4_slot 47 = .ok (.baload, 1) := by decide +kernel
theorem dX4_slot_48 : decode cX4_slot 48 = .ok (.ifCond .eq 6, 3) := by decide +kernel
theorem dX4_slot_51 : decode cX4_slot 51 = .ok (.iinc 4 10, 3) := by decide +kernel
theorem dX4_slot_54 : decode cX4_slot 54 = .ok (.aload_n 0, 1) := by decide +kernel
theorem dX4_slot_55 : decode cX4_slot 55 = .ok (.getfield 19, 3) := by decide +kernel
theorem dX4_slot_58 : decode cX4_slot 58 = .ok (.iload_n 3, 1) := by decide +kernel
theorem dX4_slot_59 : decode cX4_slot 59 = .ok (.invokevirtual 206, 3) := by decide +kernel
theorem dX4_slot_62 : decode cX4_slot 62 = .ok (.ifCond .eq 6, 3) := by decide +kernel
theorem dX4_slot_65 : decode cX4_slot 65 = .ok (.iinc 4 20, 3) := by decide +kernel
theorem dX4_slot_68 : decode cX4_slot 68 = .ok (.aload_n 0, 1) := by decide +kernel
theorem dX4_slot_69 : decode cX4_slot 69 = .ok (.getfield 19, 3) := by decide +kernel
theorem dX4_slot_72 : decode cX4_slot 72 = .ok (.getfield 157, 3) := by decide +kernel
theorem dX4_slot_75 : decode cX4_slot 75 = .ok (.iload_n 3, 1) := by decide +kernel
theorem dX4_slot_76 : decode cX4_slot 76 = .ok (.iaload, 1) := by decide +kernel
theorem dX4_slot_77 : decode cX4_slot 77 = .ok (.invokestatic 111, 3) := by decide +kernel
theorem dX4_slot_80 : decode cX4_slot 80 = .ok (.ifCond .eq 25, 3) := by decide +kernel
theorem dX4_slot_83 : decode cX4_slot 83 = .ok (.iload 4, 2) := by decide +kernel
theorem dX4_slot_85 : decode cX4_slot 85 = .ok (.bipush 100, 2) := by decide +kernel
theorem dX4_slot_87 : decode cX4_slot 87 = .ok (.iconst 1, 1) := by decide +kernel
theorem dX4_slot_88 : decode cX4_slot 88 = .ok (.aload_n 0, 1) := by decide +kernel
theorem dX4_slot_89 : decode cX4_slot 89 = .ok (.getfield 19, 3) := by decide +kernel
theorem dX4_slot_92 : decode cX4_slot 92 = .ok (.getfield 157, 3) := by decide +kernel
theorem dX4_slot_95 : decode cX4_slot 95 = .ok (.iload_n 3, 1) := by decide +kernel
theorem dX4_slot_96 : decode cX4_slot 96 = .ok (.iaload, 1) := by decide +kernel
theorem dX4_slot_97 : decode cX4_slot 97 = .ok (.invokestatic 163, 3) := by decide +kernel
theorem dX4_slot_100 : decode cX4_slot 100 = .ok (.iadd, 1) := by decide +kernel
theorem dX4_slot_101 : decode cX4_slot 101 = .ok (.imul, 1) := by decide +kernel
theorem dX4_slot_102 : decode cX4_slot 102 = .ok (.iadd, 1) := by decide +kernel
theorem dX4_slot_103 : decode cX4_slot 103 = .ok (.istore 4, 2) := by decide +kernel
theorem dX4_slot_105 : decode cX4_slot 105 = .ok (.iload 4, 2) := by decide +kernel
theorem dX4_slot_107 : decode cX4_slot 107 = .ok (.ireturn, 1) := by decide +kernel
set_option maxRecDepth 20000 in
theorem ggX4_entries_X4_checkKey : GoodIn wsX4_entries wsX4_checkKey := goodIn_ca (goodIn_r _ [6, 7, 8] (by decide +kernel) (by decide +kernel)) (goodIn_sub (fun _ h => List.mem_cons_of_mem _ (List.mem_append_right _ h)) (by decide +kernel))
set_option maxRecDepth 20000 in
theorem gX4_entries_X4_checkKey : GoodIn wsX4_entries (va_wsS RX4 105 yX4_checkKey wsX4_checkKey) := goodIn_app (goodIn_of _ (by decide +kernel)) ggX4_entries_X4_checkKey
theorem dX4_entries_0 : decode cX4_entries 0 = .ok (.iload_n 1, 1) := by decide +kernel
theorem dX4_entries_1 : decode cX4_entries 1 = .ok (.invokestatic 105, 3) := by decide +kernel
theorem dX4_entries_4 : decode cX4_entries 4 = .ok (.aload_n 0, 1) := by decide +kernel
theorem dX4_entries_5 : decode cX4_entries 5 = .ok (.getfield 26, 3) := by decide +kernel
theorem dX4_entries_8 : decode cX4_entries 8 = .ok (.getfield 209, 3) := by decide +kernel
theorem dX4_entries_11 : decode cX4_entries 11 = .ok (.iload_n 1, 1) := by decide +kernel
theorem dX4_entries_12 : decode cX4_entries 12 = .ok (.iaload, 1) := by decide +kernel
theorem dX4_entries_13 : decode cX4_entries 13 = .ok (.ireturn, 1) := by decide +kernel
set_option maxRecDepth 20000 in
theorem ggX4_fullness_X4_checkPage : GoodIn wsX4_fullness wsX4_checkPage := goodIn_ca (goodIn_r _ [6, 7, 8] (by decide +kernel) (by decide +kernel)) (goodIn_sub (fun _ h => List.mem_cons_of_mem _ (List.mem_append_right _ h)) (by decide +kernel))
set_option maxRecDepth 20000 in
theorem gX4_fullness_X4_checkPage : GoodIn wsX4_fullness (va_wsS RX4 167 yX4_checkPage wsX4_checkPage) := goodIn_app (goodIn_of _ (by decide +kernel)) ggX4_fullness_X4_checkPage
set_option maxRecDepth 20000 in
theorem ggX4_fullness_X4_firstOf : GoodIn wsX4_fullness wsX4_firstOf := goodIn_r _ [11] (by decide +kernel) (by decide +kernel)
set_option maxRecDepth 20000 in
theorem gX4_fullness_X4_firstOf : GoodIn wsX4_fullness (va_wsS RX4 174 yX4_firstOf wsX4_firstOf) := goodIn_app (goodIn_of _ (by decide +kernel)) ggX4_fullness_X4_firstOf
set_option maxRecDepth 20000 in
theorem ggX4_fullness_X1_isUsed : GoodIn wsX4_fullness wsX1_isUsed := goodIn_r _ [16, 17, 24, 25, 26, 27, 28, 29, 30, 31, 32] (by decide +kernel) (by decide +kernel)
set_option maxRecDepth 20000 in
theorem gX4_fullness_X1_isUsed : GoodIn wsX4_fullness (wsV RX4 193 RX1 yX1_isUsed wsX1_isUsed) := goodIn_app (goodIn_of _ (by decide +kernel)) ggX4_fullness_X1_isUsed
theorem dX4_fullness_0 : decode cX4_fullness 0 = .ok (.iload_n 1, 1) := by decide +kernel
theorem dX4_fullness_1 : decode cX4_fullness 1 = .ok (.invokestatic 167, 3) := by decide +kernel
theorem dX4_fullness_4 : decode cX4_fullness 4 = .ok (.iconst 0, 1) := by decide +kernel
theorem dX4_fullness_5 : decode cX4_fullness 5 = .ok (.istore_n 2, 1) := by decide +kernel
theorem dX4_fullness_6 : decode cX4_fullness 6 = .ok (.iload_n 1, 1) := by decide +kernel
theorem dX4_fullness_7 : decode cX4_fullness 7 = .ok (.invokestatic 174, 3) := by decide +kernel
theorem dX4_fullness_10 : decode cX4_fullness 10 = .ok (.istore_n 3, 1) := by decide +kernel
theorem dX4_fullness_11 : decode cX4_fullness 11 = .ok (.iload_n 3, 1) := by decide +kernel
theorem dX4_fullness_12 : decode cX4_fullness 12 = .ok (.iload_n 1, 1) := by decide +kernel
theorem dX4_fullness_13 : decode cX4_fullness 13 = .ok (.invokestatic 174, 3) := by decide +kernel
theorem dX4_fullness_16 : decode cX4_fullness 16 = .ok (.bipush 8, 2) := by decide +kernel
theorem dX4_fullness_18 : decode cX4_fullness 18 = .ok (.iadd, 1) := by decide +kernel
theorem dX4_fullness_19 : decode cX4_fullness 19 = .ok (.if_icmp .ge 23, 3) := by decide +kernel
theorem dX4_fullness_22 : decode cX4_fullness 22 = .ok (.aload_n 0, 1) := by decide +kernel
theorem dX4_fullness_23 : decode cX4_fullness 23 = .ok (.getfield 19, 3) := by decide +kernel
theorem dX4_fullness_26 : decode cX4_fullness 26 = .ok (.iload_n 3, 1) := by decide +kernel
theorem dX4_fullness_27 : decode cX4_fullness 27 = .ok (.invokevirtual 193, 3) := by decide +kernel
theorem dX4_fullness_30 : decode cX4_fullness 30 = .ok (.ifCond .eq 6, 3) := by decide +kernel
theorem dX4_fullness_33 : decode cX4_fullness 33 = .ok (.iinc 2 1, 3) := by decide +kernel
theorem dX4_fullness_36 : decode cX4_fullness 36 = .ok (.iinc 3 1, 3) := by decide +kernel
theorem dX4_fullness_39 : decode cX4_fullness 39 = .ok (.goto (-28), 3) := by decide +kernel
theorem dX4_fullness_42 : decode cX4_fullness 42 = .ok (.iload_n 2, 1) := by decide +kernel
theorem dX4_fullness_43 : decode cX4_fullness 43 = .ok (.i2f, 1) := by decide +kernel
theorem dX4_fullness_44 : decode cX4_fullness 44 = .ok (.ldc 212, 2) := by decide +kernel
theorem dX4_fullness_46 : decode cX4_fullness 46 = .ok (.fdiv, 1) := by decide +kernel
theorem dX4_fullness_47 : decode cX4_fullness 47 = .ok (.freturn, 1) := by decide +kernel
set_option maxRecDepth 20000 in
theorem ggX4_oldest_X3_oldestActiveAge : GoodIn wsX4_oldest wsX3_oldestActiveAge := goodIn_r _ [14, 15, 16, 17, 6, 7, 8, 18, 19, 20, 13, 21, 22, 23, 24, 25, 26, 27, 28, 29, 30, 31, 32, 33, 34, 35, 36, 37, 65, 66, 67, 68, 69, 70] (by decide +kernel) (by decide +kernel)
set_option maxRecDepth 20000 in
theorem gX4_oldest_X3_oldestActiveAge : GoodIn wsX4_oldest (wsV RX4 213 RX3 yX3_oldestActiveAge wsX3_oldestActiveAge) := goodIn_app (goodIn_of _ (by decide +kernel)) ggX4_oldest_X3_oldestActiveAge
set_option maxRecDepth 20000 in
theorem ggX4_oldest_X1_isUsed : GoodIn wsX4_oldest wsX1_isUsed := goodIn_r _ [42, 43, 56, 57, 58, 59, 60, 61, 62, 63, 64] (by decide +kernel) (by decide +kernel)
set_option maxRecDepth 20000 in
theorem gX4_oldest_X1_isUsed : GoodIn wsX4_oldest (wsV RX4 193 RX1 yX1_isUsed wsX1_isUsed) := goodIn_app (goodIn_of _ (by decide +kernel)) ggX4_oldest_X1_isUsed
set_option maxRecDepth 20000 in
theorem ggX4_oldest_X3_ageOf : GoodIn wsX4_oldest wsX3_ageOf := goodIn_r _ [29, 30, 31, 32, 33, 34, 35, 36, 37, 65, 66, 67, 68, 69, 70] (by decide +kernel) (by decide +kernel)
set_option maxRecDepth 20000 in
theorem gX4_oldest_X3_ageOf : GoodIn wsX4_oldest (wsV RX4 219 RX3 yX3_ageOf wsX3_ageOf) := goodIn_app (goodIn_of _ (by decide +kernel)) ggX4_oldest_X3_ageOf
set_option maxRecDepth 20000 in
theorem ggX4_oldest_X1_hasDeath : GoodIn wsX4_oldest wsX1_hasDeath := goodIn_r _ [48, 49, 56, 57, 58, 59, 60, 61, 62, 63, 64] (by decide +kernel) (by decide +kernel)
set_option maxRecDepth 20000 in
theorem gX4_oldest_X1_hasDeath : GoodIn wsX4_oldest (wsV RX4 206 RX1 yX1_hasDeath wsX1_hasDeath) := goodIn_app (goodIn_of _ (by decide +kernel)) ggX4_oldest_X1_hasDeath
theorem dX4_oldest_0 : decode cX4_oldest 0 = .ok (.aload_n 0, 1) := by decide +kernel
theorem dX4_oldest_1 : decode cX4_oldest 1 = .ok (.getfield 12, 3) := by decide +kernel
theorem dX4_oldest_4 : decode cX4_oldest 4 = .ok (.invokevirtual 213, 3) := by decide +kernel
theorem dX4_oldest_7 : decode cX4_oldest 7 = .ok (.istore_n 1, 1) := by decide +kernel
theorem dX4_oldest_8 : decode cX4_oldest 8 = .ok (.iconst 0, 1) := by decide +kernel
theorem dX4_oldest_9 : decode cX4_oldest 9 = .ok (.istore_n 2, 1) := by decide +kernel
theorem dX4_oldest_10 : decode cX4_oldest 10 = .ok (.iload_n 2, 1) := by decide +kernel
theorem dX4_oldest_11 : decode cX4_oldest 11 = .ok (.bipush 32, 2) := by decide +kernel
theorem dX4_oldest_13 : decode cX4_oldest 13 = .ok (.if_icmp .ge 85, 3) := by decide +kernel
theorem dX4_oldest_16 : decode cX4_oldest 16 = .ok (.aload_n 0, 1) := by decide +kernel
theorem dX4_oldest_17 : decode cX4_oldest 17 = .ok (.getfield 19, 3) := by decide +kernel
theorem dX4_oldest_20 : decode cX4_oldest 20 = .ok (.iload_n 2, 1) := by decide +kernel
theorem dX4_oldest_21 : decode cX4_oldest 21 = .ok (.invokevirtual 193, 3) := by decide +kernel
theorem dX4_oldest_24 : decode cX4_oldest 24 = .ok (.ifCond .eq 36, 3) := by decide +kernel
theorem dX4_oldest_27 : decode cX4_oldest 27 = .ok (.aload_n 0, 1) := by decide +kernel
theorem dX4_oldest_28 : decode cX4_oldest 28 = .ok (.getfield 19, 3) := by decide +kernel
theorem dX4_oldest_31 : decode cX4_oldest 31 = .ok (.getfield 203, 3) := by decide +kernel
theorem dX4_oldest_34 : decode cX4_oldest 34 = .ok (.iload_n 2, 1) := by decide +kernel
theorem dX4_oldest_35 : decode cX4_oldest 35 = .ok (.baload, 1) := by decide +kernel
theorem dX4_oldest_36 : decode cX4_oldest 36 = .ok (.ifCond .ne 24, 3) := by decide +kernel
theorem dX4_oldest_39 : decode cX4_oldest 39 = .ok (.iload_n 1, 1) := by decide +kernel
theorem dX4_oldest_40 : decode cX4_oldest 40 = .ok (.aload_n 0, 1) := by decide +kernel
theorem dX4_oldest_41 : decode cX4_oldest 41 = .ok (.getfield 12, 3) := by decide +kernel
theorem dX4_oldest_44 : decode cX4_oldest 44 = .ok (.aload_n 0, 1) := by decide +kernel
theorem dX4_oldest_45 : decode cX4_oldest 45 = .ok (.getfield 19, 3) := by decide +kernel
theorem dX4_oldest_48 : decode cX4_oldest 48 = .ok (.getfield 216, 3) := by decide +kernel
theorem dX4_oldest_51 : decode cX4_oldest 51 = .ok (.iload_n 2, 1) := by decide +kernel
theorem dX4_oldest_52 : decode cX4_oldest 52 = .ok (.iaload, 1) := by decide +kernel
theorem dX4_oldest_53 : decode cX4_oldest 53 = .ok (.invokevirtual 219, 3) := by decide +kernel
theorem dX4_oldest_56 : decode cX4_oldest 56 = .ok (.invokestatic 222, 3) := by decide +kernel
theorem dX4_oldest_59 : decode cX4_oldest 59 = .ok (.istore_n 1, 1) := by decide +kernel
theorem dX4_oldest_60 : decode cX4_oldest 60 = .ok (.aload_n 0, 1) := by decide +kernel
theorem dX4_oldest_61 : decode cX4_oldest 61 = .ok (.getfield 19, 3) := by decide +kernel
theorem dX4_oldest_64 : decode cX4_oldest 64 = .ok (.iload_n 2, 1) := by decide +kernel
theorem dX4_oldest_65 : decode cX4_oldest 65 = .ok (.invokevirtual 206, 3) := by decide +kernel
theorem dX4_oldest_68 : decode cX4_oldest 68 = .ok (.ifCond .eq 24, 3) := by decide +kernel
theorem dX4_oldest_71 : decode cX4_oldest 71 = .ok (.iload_n 1, 1) := by decide +kernel
theorem dX4_oldest_72 : decode cX4_oldest 72 = .ok (.aload_n 0, 1) := by decide +kernel
theorem dX4_oldest_73 : decode cX4_oldest 73 = .ok (.getfield 12, 3) := by decide +kernel
theorem dX4_oldest_76 : decode cX4_oldest 76 = .ok (.aload_n 0, 1) := by decide +kernel
theorem dX4_oldest_77 : decode cX4_oldest 77 = .ok (.getfield 19, 3) := by decide +kernel
theorem dX4_oldest_80 : decode cX4_oldest 80 = .ok (.getfield 227, 3) := by decide +kernel
theorem dX4_oldest_83 : decode cX4_oldest 83 = .ok (.iload_n 2, 1) := by decide +kernel
theorem dX4_oldest_84 : decode cX4_oldest 84 = .ok (.iaload, 1) := by decide +kernel
theorem dX4_oldest_85 : decode cX4_oldest 85 = .ok (.invokevirtual 219, 3) := by decide +kernel
theorem dX4_oldest_88 : decode cX4_oldest 88 = .ok (.invokestatic 222, 3) := by decide +kernel
theorem dX4_oldest_91 : decode cX4_oldest 91 = .ok (.istore_n 1, 1) := by decide +kernel
theorem dX4_oldest_92 : decode cX4_oldest 92 = .ok (.iinc 2 1, 3) := by decide +kernel
theorem dX4_oldest_95 : decode cX4_oldest 95 = .ok (.goto (-85), 3) := by decide +kernel
theorem dX4_oldest_98 : decode cX4_oldest 98 = .ok (.iload_n 1, 1) := by decide +kernel
theorem dX4_oldest_99 : decode cX4_oldest 99 = .ok (.ireturn, 1) := by decide +kernel
set_option maxRecDepth 20000 in
theorem ggX4_checkTransaction_X3_wereBegun : GoodIn wsX4_checkTransaction wsX3_wereBegun := goodIn_r _ [8, 9, 16, 17, 18, 19, 20, 21] (by decide +kernel) (by decide +kernel)
set_option maxRecDepth 20000 in
theorem gX4_checkTransaction_X3_wereBegun : GoodIn wsX4_checkTransaction (wsV RX4 230 RX3 yX3_wereBegun wsX3_wereBegun) := goodIn_app (goodIn_of _ (by decide +kernel)) ggX4_checkTransaction_X3_wereBegun
theorem dX4_checkTransaction_0 : decode cX4_checkTransaction 0 = .ok (.aload_n 0, 1) := by decide +kernel
theorem dX4_checkTransaction_1 : decode cX4_checkTransaction 1 = .ok (.getfield 12, 3) := by decide +kernel
theorem dX4_checkTransaction_4 : decode cX4_checkTransaction 4 = .ok (.iload_n 1, 1) := by decide +kernel
theorem dX4_checkTransaction_5 : decode cX4_checkTransaction 5 = .ok (.invokevirtual 230, 3) := by decide +kernel
theorem dX4_checkTransaction_8 : decode cX4_checkTransaction 8 = .ok (.ifCond .ne 13, 3) := by decide +kernel
theorem dX4_checkTransaction_11 : decode cX4_checkTransaction 11 = .ok (.new 233, 3) := by decide +kernel
theorem dX4_checkTransaction_14 : decode cX4_checkTransaction 14 = .ok (.dup, 1) := by decide +kernel
theorem dX4_checkTransaction_15 : decode cX4_checkTransaction 15 = .ok (.ldc 235, 2) := by decide +kernel
theorem dX4_checkTransaction_17 : decode cX4_checkTransaction 17 = .ok (.invokespecial 237, 3) := by decide +kernel
theorem dX4_checkTransaction_20 : decode cX4_checkTransaction 20 = .ok (.athrow, 1) := by decide +kernel
theorem dX4_checkTransaction_21 : decode cX4_checkTransaction 21 = .ok (.return_, 1) := by decide +kernel
set_option maxRecDepth 20000 in
theorem ggX4_checkActive_X3_isActive : GoodIn wsX4_checkActive wsX3_isActive := goodIn_r _ [8, 9, 10, 11, 7, 12, 19, 20, 21, 22, 23, 24] (by decide +kernel) (by decide +kernel)
set_option maxRecDepth 20000 in
theorem gX4_checkActive_X3_isActive : GoodIn wsX4_checkActive (wsV RX4 238 RX3 yX3_isActive wsX3_isActive) := goodIn_app (goodIn_of _ (by decide +kernel)) ggX4_checkActive_X3_isActive
theorem dX4_checkActive_0 : decode cX4_checkActive 0 = .ok (.aload_n 0, 1) := by decide +kernel
theorem dX4_checkActive_1 : decode cX4_checkActive 1 = .ok (.getfield 12, 3) := by decide +kernel
theorem dX4_checkActive_4 : decode cX4_checkActive 4 = .ok (.iload_n 1, 1) := by decide +kernel
theorem dX4_checkActive_5 : decode cX4_checkActive 5 = .ok (.invokevirtual 238, 3) := by decide +kernel
theorem dX4_checkActive_8 : decode cX4_checkActive 8 = .ok (.ifCond .ne 13, 3) := by decide +kernel
theorem dX4_checkActive_11 : decode cX4_checkActive 11 = .ok (.new 49, 3) := by decide +kernel
theorem dX4_checkActive_14 : decode cX4_checkActive 14 = .ok (.dup, 1) := by decide +kernel
theorem dX4_checkActive_15 : decode cX4_checkActive 15 = .ok (.ldc 241, 2) := by decide +kernel
theorem dX4_checkActive_17 : decode cX4_checkActive 17 = .ok (.invokespecial 53, 3) := by decide +kernel
theorem dX4_checkActive_20 : decode cX4_checkActive 20 = .ok (.athrow, 1) := by decide +kernel
theorem dX4_checkActive_21 : decode cX4_checkActive 21 = .ok (.return_, 1) := by decide +kernel
set_option maxRecDepth 20000 in
theorem ggX4_checkNotRefused_X3_isRival : GoodIn wsX4_checkNotRefused wsX3_isRival := goodIn_r _ [12, 13, 14, 15, 16, 11, 17, 18, 19, 20, 21, 22, 38, 39, 40, 41, 42, 43] (by decide +kernel) (by decide +kernel)
set_option maxRecDepth 20000 in
theorem gX4_checkNotRefused_X3_isRival : GoodIn wsX4_checkNotRefused (wsV RX4 244 RX3 yX3_isRival wsX3_isRival) := goodIn_app (goodIn_of _ (by decide +kernel)) ggX4_checkNotRefused_X3_isRival
theorem dX4_checkNotRefused_0 : decode cX4_checkNotRefused 0 = .ok (.iconst 0, 1) := by decide +kernel
theorem dX4_checkNotRefused_1 : decode cX4_checkNotRefused 1 = .ok (.istore_n 3, 1) := by decide +kernel
theorem dX4_checkNotRefused_2 : decode cX4_checkNotRefused 2 = .ok (.iload_n 3, 1) := by decide +kernel
theorem dX4_checkNotRefused_3 : decode cX4_checkNotRefused 3 = .ok (.bipush 32, 2) := by decide +kernel
theorem dX4_checkNotRefused_5 : decode cX4_checkNotRefused 5 = .ok (.if_icmp .ge 72, 3) := by decide +kernel
theorem dX4_checkNotRefused_8 : decode cX4_checkNotRefused 8 = .ok (.aload_n 0, 1) := by decide +kernel
theorem dX4_checkNotRefused_9 : decode cX4_checkNotRefused 9 = .ok (.getfield 19, 3) := by decide +kernel
theorem dX4_checkNotRefused_12 : decode cX4_checkNotRefused 12 = .ok (.getfield 202, 3) := by decide +kernel
theorem dX4_checkNotRefused_15 : decode cX4_checkNotRefused 15 = .ok (.iload_n 3, 1) := by decide +kernel
theorem dX4_checkNotRefused_16 : decode cX4_checkNotRefused 16 = .ok (.iaload, 1) := by decide +kernel
theorem dX4_checkNotRefused_17 : decode cX4_checkNotRefused 17 = .ok (.iload_n 2, 1) := by decide +kernel
theorem dX4_checkNotRefused_18 : decode cX4_checkNotRefused 18 = .ok (.if_icmp .ne 53, 3) := by decide +kernel
theorem dX4_checkNotRefused_21 : decode cX4_checkNotRefused 21 = .ok (.aload_n 0, 1) := by decide +kernel
theorem dX4_checkNotRefused_22 : decode cX4_checkNotRefused 22 = .ok (.getfield 12, 3) := by decide +kernel
theorem dX4_checkNotRefused_25 : decode cX4_checkNotRefused 25 = .ok (.iload_n 1, 1) := by decide +kernel
theorem dX4_checkNotRefused_26 : decode cX4_checkNotRefused 26 = .ok (.aload_n 0, 1) := by decide +kernel
theorem dX4_checkNotRefused_27 : decode cX4_checkNotRefused 27 = .ok (.getfield 19, 3) := by decide +kernel
theorem dX4_checkNotRefused_30 : decode cX4_checkNotRefused 30 = .ok (.getfield 243, 3) := by decide +kernel
theorem dX4_checkNotRefused_33 : decode cX4_checkNotRefused 33 = .ok (.iload_n 3, 1) := by decide +kernel
theorem dX4_checkNotRefused_34 : decode cX4_checkNotRefused 34 = .ok (.iaload, 1) := by decide +kernel
theorem dX4_checkNotRefused_35 : decode cX4_checkNotRefused 35 = .ok (.invokevirtual 244, 3) := by decide +kernel
theorem dX4_checkNotRefused_38 : decode cX4_checkNotRefused 38 = .ok (.ifCond .ne 23, 3) := by decide +kernel
theorem dX4_checkNotRefused_41 : decode cX4_checkNotRefused 41 = .ok (.aload_n 0, 1) := by decide +kernel
theorem dX4_checkNotRefused_42 : decode cX4_checkNotRefused 42 = .ok (.getfield 12, 3) := by decide +kernel
theorem dX4_checkNotRefused_45 : decode cX4_checkNotRefused 45 = .ok (.iload_n 1, 1) := by decide +kernel
theorem dX4_checkNotRefused_46 : decode cX4_checkNotRefused 46 = .ok (.aload_n 0, 1) := by decide +kernel
theorem dX4_checkNotRefused_47 : decode cX4_checkNotRefused 47 = .ok (.getfield 19, 3) := by decide +kernel
theorem dX4_checkNotRefused_50 : decode cX4_checkNotRefused 50 = .ok (.getfield 247, 3) := by decide +kernel
theorem dX4_checkNotRefused_53 : decode cX4_checkNotRefused 53 = .ok (.iload_n 3, 1) := by decide +kernel
theorem dX4_checkNotRefused_54 : decode cX4_checkNotRefused 54 = .ok (.iaload, 1) := by decide +kernel
theorem dX4_checkNotRefused_55 : decode cX4_checkNotRefused 55 = .ok (.invokevirtual 244, 3) := by decide +kernel
theorem dX4_checkNotRefused_58 : decode cX4_checkNotRefused 58 = .ok (.ifCond .eq 13, 3) := by decide +kernel
theorem dX4_checkNotRefused_61 : decode cX4_checkNotRefused 61 = .ok (.new 49, 3) := by decide +kernel
theorem dX4_checkNotRefused_64 : decode cX4_checkNotRefused 64 = .ok (.dup, 1) := by decide +kernel
theorem dX4_checkNotRefused_65 : decode cX4_checkNotRefused 65 = .ok (.ldc 248, 2) := by decide +kernel
theorem dX4_checkNotRefused_67 : decode cX4_checkNotRefused 67 = .ok (.invokespecial 53, 3) := by decide +kernel
theorem dX4_checkNotRefused_70 : decode cX4_checkNotRefused 70 = .ok (.athrow, 1) := by decide +kernel
theorem dX4_checkNotRefused_71 : decode cX4_checkNotRefused 71 = .ok (.iinc 3 1, 3) := by decide +kernel
theorem dX4_checkNotRefused_74 : decode cX4_checkNotRefused 74 = .ok (.goto (-72), 3) := by decide +kernel
theorem dX4_checkNotRefused_77 : decode cX4_checkNotRefused 77 = .ok (.return_, 1) := by decide +kernel
theorem dX4_checkStamp_0 : decode cX4_checkStamp 0 = .ok (.iload_n 0, 1) := by decide +kernel
theorem dX4_checkStamp_1 : decode cX4_checkStamp 1 = .ok (.ifCond .lt 9, 3) := by decide +kernel
theorem dX4_checkStamp_4 : decode cX4_checkStamp 4 = .ok (.iload_n 0, 1) := by decide +kernel
theorem dX4_checkStamp_5 : decode cX4_checkStamp 5 = .ok (.bipush 64, 2) := by decide +kernel
theorem dX4_checkStamp_7 : decode cX4_checkStamp 7 = .ok (.if_icmp .lt 13, 3) := by decide +kernel
theorem dX4_checkStamp_10 : decode cX4_checkStamp 10 = .ok (.new 83, 3) := by decide +kernel
theorem dX4_checkStamp_13 : decode cX4_checkStamp 13 = .ok (.dup, 1) := by decide +kernel
theorem dX4_checkStamp_14 : decode cX4_checkStamp 14 = .ok (.ldc 250, 2) := by decide +kernel
theorem dX4_checkStamp_16 : decode cX4_checkStamp 16 = .ok (.invokespecial 87, 3) := by decide +kernel
theorem dX4_checkStamp_19 : decode cX4_checkStamp 19 = .ok (.athrow, 1) := by decide +kernel
theorem dX4_checkStamp_20 : decode cX4_checkStamp 20 = .ok (.return_, 1) := by decide +kernel
theorem dX4_checkKey_0 : decode cX4_checkKey 0 = .ok (.iload_n 0, 1) := by decide +kernel
theorem dX4_checkKey_1 : decode cX4_checkKey 1 = .ok (.ifCond .lt 9, 3) := by decide +kernel
theorem dX4_checkKey_4 : decode cX4_checkKey 4 = .ok (.iload_n 0, 1) := by decide +kernel
theorem dX4_checkKey_5 : decode cX4_checkKey 5 = .ok (.bipush 6, 2) := by decide +kernel
theorem dX4_checkKey_7 : decode cX4_checkKey 7 = .ok (.if_icmp .lt 13, 3) := by decide +kernel
theorem dX4_checkKey_10 : decode cX4_checkKey 10 = .ok (.new 83, 3) := by decide +kernel
theorem dX4_checkKey_13 : decode cX4_checkKey 13 = .ok (.dup, 1) := by decide +kernel
theorem dX4_checkKey_14 : decode cX4_checkKey 14 = .ok (.ldc 252, 2) := by decide +kernel
theorem dX4_checkKey_16 : decode cX4_checkKey 16 = .ok (.invokespecial 87, 3) := by decide +kernel
theorem dX4_checkKey_19 : decode cX4_checkKey 19 = .ok (.athrow, 1) := by decide +kernel
theorem dX4_checkKey_20 : decode cX4_checkKey 20 = .ok (.return_, 1) := by decide +kernel
theorem dX4_checkValue_0 : decode cX4_checkValue 0 = .ok (.iload_n 0, 1) := by decide +kernel
theorem dX4_checkValue_1 : decode cX4_checkValue 1 = .ok (.ifCond .lt 10, 3) := by decide +kernel
theorem dX4_checkValue_4 : decode cX4_checkValue 4 = .ok (.iload_n 0, 1) := by decide +kernel
theorem dX4_checkValue_5 : decode cX4_checkValue 5 = .ok (.sipush 10000, 3) := by decide +kernel
theorem dX4_checkValue_8 : decode cX4_checkValue 8 = .ok (.if_icmp .lt 13, 3) := by decide +kernel
theorem dX4_checkValue_11 : decode cX4_checkValue 11 = .ok (.new 83, 3) := by decide +kernel
theorem dX4_checkValue_14 : decode cX4_checkValue 14 = .ok (.dup, 1) := by decide +kernel
theorem dX4_checkValue_15 : decode cX4_checkValue 15 = .ok (.ldc 254, 2) := by decide +kernel
theorem dX4_checkValue_17 : decode cX4_checkValue 17 = .ok (.invokespecial 87, 3) := by decide +kernel
theorem dX4_checkValue_20 : decode cX4_checkValue 20 = .ok (.athrow, 1) := by decide +kernel
theorem dX4_checkValue_21 : decode cX4_checkValue 21 = .ok (.return_, 1) := by decide +kernel
theorem dX4_checkPage_0 : decode cX4_checkPage 0 = .ok (.iload_n 0, 1) := by decide +kernel
theorem dX4_checkPage_1 : decode cX4_checkPage 1 = .ok (.ifCond .lt 8, 3) := by decide +kernel
theorem dX4_checkPage_4 : decode cX4_checkPage 4 = .ok (.iload_n 0, 1) := by decide +kernel
theorem dX4_checkPage_5 : decode cX4_checkPage 5 = .ok (.iconst 4, 1) := by decide +kernel
theorem dX4_checkPage_6 : decode cX4_checkPage 6 = .ok (.if_icmp .lt 14, 3) := by decide +kernel
theorem dX4_checkPage_9 : decode cX4_checkPage 9 = .ok (.new 83, 3) := by decide +kernel
theorem dX4_checkPage_12 : decode cX4_checkPage 12 = .ok (.dup, 1) := by decide +kernel
theorem dX4_checkPage_13 : decode cX4_checkPage 13 = .ok (.ldc_w 256, 3) := by decide +kernel
theorem dX4_checkPage_16 : decode cX4_checkPage 16 = .ok (.invokespecial 87, 3) := by decide +kernel
theorem dX4_checkPage_19 : decode cX4_checkPage 19 = .ok (.athrow, 1) := by decide +kernel
theorem dX4_checkPage_20 : decode cX4_checkPage 20 = .ok (.return_, 1) := by decide +kernel
theorem dX4_checkSlot_0 : decode cX4_checkSlot 0 = .ok (.iload_n 0, 1) := by decide +kernel
theorem dX4_checkSlot_1 : decode cX4_checkSlot 1 = .ok (.ifCond .lt 9, 3) := by decide +kernel
theorem dX4_checkSlot_4 : decode cX4_checkSlot 4 = .ok (.iload_n 0, 1) := by decide +kernel
theorem dX4_checkSlot_5 : decode cX4_checkSlot 5 = .ok (.bipush 8, 2) := by decide +kernel
theorem dX4_checkSlot_7 : decode cX4_checkSlot 7 = .ok (.if_icmp .lt 14, 3) := by decide +kernel
theorem dX4_checkSlot_10 : decode cX4_checkSlot 10 = .ok (.new 83, 3) := by decide +kernel
theorem dX4_checkSlot_13 : decode cX4_checkSlot 13 = .ok (.dup, 1) := by decide +kernel
theorem dX4_checkSlot_14 : decode cX4_checkSlot 14 = .ok (.ldc_w 258, 3) := by decide +kernel
theorem dX4_checkSlot_17 : decode cX4_checkSlot 17 = .ok (.invokespecial 87, 3) := by decide +kernel
theorem dX4_checkSlot_20 : decode cX4_checkSlot 20 = .ok (.athrow, 1) := by decide +kernel
theorem dX4_checkSlot_21 : decode cX4_checkSlot 21 = .ok (.return_, 1) := by decide +kernel
theorem dX4_isPlace_0 : decode cX4_isPlace 0 = .ok (.iload_n 0, 1) := by decide +kernel
theorem dX4_isPlace_1 : decode cX4_isPlace 1 = .ok (.ifCond .lt 13, 3) := by decide +kernel
theorem dX4_isPlace_4 : decode cX4_isPlace 4 = .ok (.iload_n 0, 1) := by decide +kernel
theorem dX4_isPlace_5 : decode cX4_isPlace 5 = .ok (.bipush 32, 2) := by decide +kernel
theorem dX4_isPlace_7 : decode cX4_isPlace 7 = .ok (.if_icmp .ge 7, 3) := by decide +kernel
theorem dX4_isPlace_10 : decode cX4_isPlace 10 = .ok (.iconst 1, 1) := by decide +kernel
theorem dX4_isPlace_11 : decode cX4_isPlace 11 = .ok (.goto 4, 3) := by decide +kernel
theorem dX4_isPlace_14 : decode cX4_isPlace 14 = .ok (.iconst 0, 1) := by decide +kernel
theorem dX4_isPlace_15 : decode cX4_isPlace 15 = .ok (.ireturn, 1) := by decide +kernel
theorem dX4_firstOf_0 : decode cX4_firstOf 0 = .ok (.iload_n 0, 1) := by decide +kernel
theorem dX4_firstOf_1 : decode cX4_firstOf 1 = .ok (.bipush 8, 2) := by decide +kernel
theorem dX4_firstOf_3 : decode cX4_firstOf 3 = .ok (.imul, 1) := by decide +kernel
theorem dX4_firstOf_4 : decode cX4_firstOf 4 = .ok (.ireturn, 1) := by decide +kernel
theorem dX4_pageOf_0 : decode cX4_pageOf 0 = .ok (.iload_n 0, 1) := by decide +kernel
theorem dX4_pageOf_1 : decode cX4_pageOf 1 = .ok (.bipush 8, 2) := by decide +kernel
theorem dX4_pageOf_3 : decode cX4_pageOf 3 = .ok (.idiv, 1) := by decide +kernel
theorem dX4_pageOf_4 : decode cX4_pageOf 4 = .ok (.ireturn, 1) := by decide +kernel
theorem dX4_slotOf_0 : decode cX4_slotOf 0 = .ok (.iload_n 0, 1) := by decide +kernel
theorem dX4_slotOf_1 : decode cX4_slotOf 1 = .ok (.bipush 8, 2) := by decide +kernel
theorem dX4_slotOf_3 : decode cX4_slotOf 3 = .ok (.irem, 1) := by decide +kernel
theorem dX4_slotOf_4 : decode cX4_slotOf 4 = .ok (.ireturn, 1) := by decide +kernel
set_option maxRecDepth 20000 in
theorem ggX4_distance_J9_floorMod_7cf53 : GoodIn wsX4_distance wsJ9_floorMod_7cf53 := goodIn_r _ [4] (by decide +kernel) (by decide +kernel)
set_option maxRecDepth 20000 in
theorem gX4_distance_J9_floorMod_7cf53 : GoodIn wsX4_distance (va_wsS RX4 260 yJ9_floorMod_7cf53 wsJ9_floorMod_7cf53) := goodIn_app (goodIn_of _ (by decide +kernel)) ggX4_distance_J9_floorMod_7cf53
theorem dX4_distance_0 : decode cX4_distance 0 = .ok (.iload_n 1, 1) := by decide +kernel
theorem dX4_distance_1 : decode cX4_distance 1 = .ok (.iload_n 0, 1) := by decide +kernel
theorem dX4_distance_2 : decode cX4_distance 2 = .ok (.isub, 1) := by decide +kernel
theorem dX4_distance_3 : decode cX4_distance 3 = .ok (.bipush 64, 2) := by decide +kernel
theorem dX4_distance_5 : decode cX4_distance 5 = .ok (.invokestatic 260, 3) := by decide +kernel
theorem dX4_distance_8 : decode cX4_distance 8 = .ok (.ireturn, 1) := by decide +kernel
set_option maxRecDepth 20000 in
theorem ggX4_seenPlace_X4_seenInChain : GoodIn wsX4_seenPlace wsX4_seenInChain := goodIn_r _ [8, 9, 10, 11, 12, 7, 13, 14, 15, 16, 17, 18, 19, 20, 21, 22, 23, 24, 25, 26, 27, 28, 29, 30, 31, 32, 33, 34, 35, 36, 39, 40, 41, 42, 43, 44, 45, 46, 47, 48, 49, 50, 51, 52, 53] (by decide +kernel) (by decide +kernel)
set_option maxRecDepth 20000 in
theorem gX4_seenPlace_X4_seenInChain : GoodIn wsX4_seenPlace (wsV RX4 267 RX4 yX4_seenInChain wsX4_seenInChain) := goodIn_app (goodIn_of _ (by decide +kernel)) ggX4_seenPlace_X4_seenInChain
theorem dX4_seenPlace_0 : decode cX4_seenPlace 0 = .ok (.aload_n 0, 1) := by decide +kernel
theorem dX4_seenPlace_1 : decode cX4_seenPlace 1 = .ok (.getfield 26, 3) := by decide +kernel
theorem dX4_seenPlace_4 : decode cX4_seenPlace 4 = .ok (.getfield 209, 3) := by decide +kernel
theorem dX4_seenPlace_7 : decode cX4_seenPlace 7 = .ok (.iload_n 2, 1) := by decide +kernel
theorem dX4_seenPlace_8 : decode cX4_seenPlace 8 = .ok (.iaload, 1) := by decide +kernel
theorem dX4_seenPlace_9 : decode cX4_seenPlace 9 = .ok (.iconst 1, 1) := by decide +kernel
theorem dX4_seenPlace_10 : decode cX4_seenPlace 10 = .ok (.isub, 1) := by decide +kernel
theorem dX4_seenPlace_11 : decode cX4_seenPlace 11 = .ok (.istore_n 3, 1) := by decide +kernel
theorem dX4_seenPlace_12 : decode cX4_seenPlace 12 = .ok (.iload_n 3, 1) := by decide +kernel
theorem dX4_seenPlace_13 : decode cX4_seenPlace 13 = .ok (.ifCond .lt 36, 3) := by decide +kernel
theorem dX4_seenPlace_16 : decode cX4_seenPlace 16 = .ok (.aload_n 0, 1) := by decide +kernel
theorem dX4_seenPlace_17 : decode cX4_seenPlace 17 = .ok (.iload_n 1, 1) := by decide +kernel
theorem dX4_seenPlace_18 : decode cX4_seenPlace 18 = .ok (.aload_n 0, 1) := by decide +kernel
theorem dX4_seenPlace_19 : decode cX4_seenPlace 19 = .ok (.getfield 26, 3) := by decide +kernel
theorem dX4_seenPlace_22 : decode cX4_seenPlace 22 = .ok (.getfield 263, 3) := by decide +kernel
theorem dX4_seenPlace_25 : decode cX4_seenPlace 25 = .ok (.iload_n 2, 1) := by decide +kernel
theorem dX4_seenPlace_26 : decode cX4_seenPlace 26 = .ok (.aaload, 1) := by decide +kernel
theorem dX4_seenPlace_27 : decode cX4_seenPlace 27 = .ok (.iload_n 3, 1) := by decide +kernel
theorem dX4_seenPlace_28 : decode cX4_seenPlace 28 = .ok (.iaload, 1) := by decide +kernel
theorem dX4_seenPlace_29 : decode cX4_seenPlace 29 = .ok (.invokevirtual 267, 3) := by decide +kernel
theorem dX4_seenPlace_32 : decode cX4_seenPlace 32 = .ok (.istore 4, 2) := by decide +kernel
theorem dX4_seenPlace_34 : decode cX4_seenPlace 34 = .ok (.iload 4, 2) := by decide +kernel
theorem dX4_seenPlace_36 : decode cX4_seenPlace 36 = .ok (.iconst (-1), 1) := by decide +kernel
theorem dX4_seenPlace_37 : decode cX4_seenPlace 37 = .ok (.if_icmp .eq 6, 3) := by decide +kernel
theorem dX4_seenPlace_40 : decode cX4_seenPlace 40 = .ok (.iload 4, 2) := by decide +kernel
theorem dX4_seenPlace_42 : decode cX4_seenPlace 42 = .ok (.ireturn, 1) := by decide +kernel
theorem dX4_seenPlace_43 : decode cX4_seenPlace 43 = .ok (.iinc 3 (-1), 3) := by decide +kernel
theorem dX4_seenPlace_46 : decode cX4_seenPlace 46 = .ok (.goto (-34), 3) := by decide +kernel
theorem dX4_seenPlace_49 : decode cX4_seenPlace 49 = .ok (.iconst (-1), 1) := by decide +kernel
theorem dX4_seenPlace_50 : decode cX4_seenPlace 50 = .ok (.ireturn, 1) := by decide +kernel
set_option maxRecDepth 20000 in
theorem ggX4_seenInChain_X4_isPlace : GoodIn wsX4_seenInChain wsX4_isPlace := goodIn_r _ [6] (by decide +kernel) (by decide +kernel)
set_option maxRecDepth 20000 in
theorem gX4_seenInChain_X4_isPlace : GoodIn wsX4_seenInChain (va_wsS RX4 111 yX4_isPlace wsX4_isPlace) := goodIn_app (goodIn_of _ (by decide +kernel)) ggX4_seenInChain_X4_isPlace
set_option maxRecDepth 20000 in
theorem ggX4_seenInChain_X4_sees : GoodIn wsX4_seenInChain wsX4_sees := goodIn_r _ [10, 1, 11, 12, 13, 14, 15, 16, 17, 18, 19, 20, 21, 22, 23, 24, 25, 26, 27, 28, 29, 30, 31, 32, 33, 34, 35, 36, 37, 38, 39, 40, 41, 42, 43, 44] (by decide +kernel) (by decide +kernel)
set_option maxRecDepth 20000 in
theorem gX4_seenInChain_X4_sees : GoodIn wsX4_seenInChain (wsV RX4 270 RX4 yX4_sees wsX4_sees) := goodIn_app (goodIn_of _ (by decide +kernel)) ggX4_seenInChain_X4_sees
theorem dX4_seenInChain_0 : decode cX4_seenInChain 0 = .ok (.iload_n 2, 1) := by decide +kernel
theorem dX4_seenInChain_1 : decode cX4_seenInChain 1 = .ok (.istore_n 3, 1) := by decide +kernel
theorem dX4_seenInChain_2 : decode cX4_seenInChain 2 = .ok (.iconst 0, 1) := by decide +kernel
theorem dX4_seenInChain_3 : decode cX4_seenInChain 3 = .ok (.istore 4, 2) := by decide +kernel
theorem dX4_seenInChain_5 : decode cX4_seenInChain 5 = .ok (.iload 4, 2) := by decide +kernel
theorem dX4_seenInChain_7 : decode cX4_seenInChain 7 = .ok (.bipush 8, 2) := by decide +kernel
theorem dX4_seenInChain_9 : decode cX4_seenInChain 9 = .ok (.if_icmp .ge 37, 3) := by decide +kernel
theorem dX4_seenInChain_12 : decode cX4_seenInChain 12 = .ok (.iload_n 3, 1) := by decide +kernel
theorem dX4_seenInChain_13 : decode cX4_seenInChain 13 = .ok (.invokestatic 111, 3) := by decide +kernel
theorem dX4_seenInChain_16 : decode cX4_seenInChain 16 = .ok (.ifCond .eq 30, 3) := by decide +kernel
theorem dX4_seenInChain_19 : decode cX4_seenInChain 19 = .ok (.aload_n 0, 1) := by decide +kernel
theorem dX4_seenInChain_20 : decode cX4_seenInChain 20 = .ok (.iload_n 1, 1) := by decide +kernel
theorem dX4_seenInChain_21 : decode cX4_seenInChain 21 = .ok (.iload_n 3, 1) := by decide +kernel
theorem dX4_seenInChain_22 : decode cX4_seenInChain 22 = .ok (.invokevirtual 270, 3) := by decide +kernel
theorem dX4_seenInChain_25 : decode cX4_seenInChain 25 = .ok (.ifCond .eq 5, 3) := by decide +kernel
theorem dX4_seenInChain_28 : decode cX4_seenInChain 28 = .ok (.iload_n 3, 1) := by decide +kernel
theorem dX4_seenInChain_29 : decode cX4_seenInChain 29 = .ok (.ireturn, 1) := by decide +kernel
theorem dX4_seenInChain_30 : decode cX4_seenInChain 30 = .ok (.aload_n 0, 1) := by decide +kernel
theorem dX4_seenInChain_31 : decode cX4_seenInChain 31 = .ok (.getfield 19, 3) := by decide +kernel
theorem dX4_seenInChain_34 : decode cX4_seenInChain 34 = .ok (.getfield 157, 3) := by decide +kernel
theorem dX4_seenInChain_37 : decode cX4_seenInChain 37 = .ok (.iload_n 3, 1) := by decide +kernel
theorem dX4_seenInChain_38 : decode cX4_seenInChain 38 = .ok (.iaload, 1) := by decide +kernel
theorem dX4_seenInChain_39 : decode cX4_seenInChain 39 = .ok (.istore_n 3, 1) := by decide +kernel
theorem dX4_seenInChain_40 : decode cX4_seenInChain 40 = .ok (.iinc 4 1, 3) := by decide +kernel
theorem dX4_seenInChain_43 : decode cX4_seenInChain 43 = .ok (.goto (-38), 3) := by decide +kernel
theorem dX4_seenInChain_46 : decode cX4_seenInChain 46 = .ok (.iconst (-1), 1) := by decide +kernel
theorem dX4_seenInChain_47 : decode cX4_seenInChain 47 = .ok (.ireturn, 1) := by decide +kernel
set_option maxRecDepth 20000 in
theorem ggX4_sees_X3_knows : GoodIn wsX4_sees wsX3_knows := goodIn_r _ [10, 11, 12, 13, 9, 14, 30, 31, 32, 33, 34, 35] (by decide +kernel) (by decide +kernel)
set_option maxRecDepth 20000 in
theorem gX4_sees_X3_knows : GoodIn wsX4_sees (wsV RX4 127 RX3 yX3_knows wsX3_knows) := goodIn_app (goodIn_of _ (by decide +kernel)) ggX4_sees_X3_knows
theorem dX4_sees_0 : decode cX4_sees 0 = .ok (.aload_n 0, 1) := by decide +kernel
theorem dX4_sees_1 : decode cX4_sees 1 = .ok (.getfield 19, 3) := by decide +kernel
theorem dX4_sees_4 : decode cX4_sees 4 = .ok (.getfield 203, 3) := by decide +kernel
theorem dX4_sees_7 : decode cX4_sees 7 = .ok (.iload_n 2, 1) := by decide +kernel
theorem dX4_sees_8 : decode cX4_sees 8 = .ok (.baload, 1) := by decide +kernel
theorem dX4_sees_9 : decode cX4_sees 9 = .ok (.ifCond .ne 23, 3) := by decide +kernel
theorem dX4_sees_12 : decode cX4_sees 12 = .ok (.aload_n 0, 1) := by decide +kernel
theorem dX4_sees_13 : decode cX4_sees 13 = .ok (.getfield 12, 3) := by decide +kernel
theorem dX4_sees_16 : decode cX4_sees 16 = .ok (.iload_n 1, 1) := by decide +kernel
theorem dX4_sees_17 : decode cX4_sees 17 = .ok (.aload_n 0, 1) := by decide +kernel
theorem dX4_sees_18 : decode cX4_sees 18 = .ok (.getfield 19, 3) := by decide +kernel
theorem dX4_sees_21 : decode cX4_sees 21 = .ok (.getfield 243, 3) := by decide +kernel
theorem dX4_sees_24 : decode cX4_sees 24 = .ok (.iload_n 2, 1) := by decide +kernel
theorem dX4_sees_25 : decode cX4_sees 25 = .ok (.iaload, 1) := by decide +kernel
theorem dX4_sees_26 : decode cX4_sees 26 = .ok (.invokevirtual 127, 3) := by decide +kernel
theorem dX4_sees_29 : decode cX4_sees 29 = .ok (.ifCond .eq 7, 3) := by decide +kernel
theorem dX4_sees_32 : decode cX4_sees 32 = .ok (.iconst 1, 1) := by decide +kernel
theorem dX4_sees_33 : decode cX4_sees 33 = .ok (.goto 4, 3) := by decide +kernel
theorem dX4_sees_36 : decode cX4_sees 36 = .ok (.iconst 0, 1) := by decide +kernel
theorem dX4_sees_37 : decode cX4_sees 37 = .ok (.istore_n 3, 1) := by decide +kernel
theorem dX4_sees_38 : decode cX4_sees 38 = .ok (.iload_n 3, 1) := by decide +kernel
theorem dX4_sees_39 : decode cX4_sees 39 = .ok (.ifCond .eq 27, 3) := by decide +kernel
theorem dX4_sees_42 : decode cX4_sees 42 = .ok (.aload_n 0, 1) := by decide +kernel
theorem dX4_sees_43 : decode cX4_sees 43 = .ok (.getfield 12, 3) := by decide +kernel
theorem dX4_sees_46 : decode cX4_sees 46 = .ok (.iload_n 1, 1) := by decide +kernel
theorem dX4_sees_47 : decode cX4_sees 47 = .ok (.aload_n 0, 1) := by decide +kernel
theorem dX4_sees_48 : decode cX4_sees 48 = .ok (.getfield 19, 3) := by decide +kernel
theorem dX4_sees_51 : decode cX4_sees 51 = .ok (.getfield 247, 3) := by decide +kernel
theorem dX4_sees_54 : decode cX4_sees 54 = .ok (.iload_n 2, 1) := by decide +kernel
theorem dX4_sees_55 : decode cX4_sees 55 = .ok (.iaload, 1) := by decide +kernel
theorem dX4_sees_56 : decode cX4_sees 56 = .ok (.invokevirtual 127, 3) := by decide +kernel
theorem dX4_sees_59 : decode cX4_sees 59 = .ok (.ifCond .ne 7, 3) := by decide +kernel
theorem dX4_sees_62 : decode cX4_sees 62 = .ok (.iconst 1, 1) := by decide +kernel
theorem dX4_sees_63 : decode cX4_sees 63 = .ok (.goto 4, 3) := by decide +kernel
theorem dX4_sees_66 : decode cX4_sees 66 = .ok (.iconst 0, 1) := by decide +kernel
theorem dX4_sees_67 : decode cX4_sees 67 = .ok (.ireturn, 1) := by decide +kernel
set_option maxRecDepth 20000 in
theorem ggX4_placeForNew_X4_isPlace : GoodIn wsX4_placeForNew wsX4_isPlace := goodIn_r _ [5] (by decide +kernel) (by decide +kernel)
set_option maxRecDepth 20000 in
theorem gX4_placeForNew_X4_isPlace : GoodIn wsX4_placeForNew (va_wsS RX4 111 yX4_isPlace wsX4_isPlace) := goodIn_app (goodIn_of _ (by decide +kernel)) ggX4_placeForNew_X4_isPlace
set_option maxRecDepth 20000 in
theorem ggX4_placeForNew_X4_pageOf : GoodIn wsX4_placeForNew wsX4_pageOf := goodIn_r _ [8] (by decide +kernel) (by decide +kernel)
set_option maxRecDepth 20000 in
theorem gX4_placeForNew_X4_pageOf : GoodIn wsX4_placeForNew (va_wsS RX4 154 yX4_pageOf wsX4_pageOf) := goodIn_app (goodIn_of _ (by decide +kernel)) ggX4_placeForNew_X4_pageOf
set_option maxRecDepth 20000 in
theorem ggX4_placeForNew_X4_firstOf : GoodIn wsX4_placeForNew wsX4_firstOf := goodIn_r _ [11] (by decide +kernel) (by decide +kernel)
set_option maxRecDepth 20000 in
theorem gX4_placeForNew_X4_firstOf : GoodIn wsX4_placeForNew (va_wsS RX4 174 yX4_firstOf wsX4_firstOf) := goodIn_app (goodIn_of _ (by decide +kernel)) ggX4_placeForNew_X4_firstOf
set_option maxRecDepth 20000 in
theorem ggX4_placeForNew_X1_lowestFree : GoodIn wsX4_placeForNew wsX1_lowestFree := goodIn_r _ [16, 17, 18, 19, 15, 20, 21, 28, 29, 30, 31, 32, 33, 34, 35, 36] (by decide +kernel) (by decide +kernel)
set_option maxRecDepth 20000 in
theorem gX4_placeForNew_X1_lowestFree : GoodIn wsX4_placeForNew (wsV RX4 273 RX1 yX1_lowestFree wsX1_lowestFree) := goodIn_app (goodIn_of _ (by decide +kernel)) ggX4_placeForNew_X1_lowestFree
theorem dX4_placeForNew_0 : decode cX4_placeForNew 0 = .ok (.iload_n 1, 1) := by decide +kernel
theorem dX4_placeForNew_1 : decode cX4_placeForNew 1 = .ok (.invokestatic 111, 3) := by decide +kernel
theorem dX4_placeForNew_4 : decode cX4_placeForNew 4 = .ok (.ifCond .eq 27, 3) := by decide +kernel
theorem dX4_placeForNew_7 : decode cX4_placeForNew 7 = .ok (.aload_n 0, 1) := by decide +kernel
theorem dX4_placeForNew_8 : decode cX4_placeForNew 8 = .ok (.getfield 19, 3) := by decide +kernel
theorem dX4_placeForNew_11 : decode cX4_placeForNew 11 = .ok (.iload_n 1, 1) := by decide +kernel
theorem dX4_placeForNew_12 : decode cX4_placeForNew 12 = .ok (.invokestatic 154, 3) := by decide +kernel
theorem dX4_placeForNew_15 : decode cX4_placeForNew 15 = .ok (.invokestatic 174, 3) := by decide +kernel
theorem dX4_placeForNew_18 : decode cX4_placeForNew 18 = .ok (.bipush 8, 2) := by decide +kernel
theorem dX4_placeForNew_20 : decode cX4_placeForNew 20 = .ok (.invokevirtual 273, 3) := by decide +kernel
theorem dX4_placeForNew_23 : decode cX4_placeForNew 23 = .ok (.istore_n 2, 1) := by decide +kernel
theorem dX4_placeForNew_24 : decode cX4_placeForNew 24 = .ok (.iload_n 2, 1) := by decide +kernel
theorem dX4_placeForNew_25 : decode cX4_placeForNew 25 = .ok (.iconst (-1), 1) := by decide +kernel
theorem dX4_placeForNew_26 : decode cX4_placeForNew 26 = .ok (.if_icmp .eq 5, 3) := by decide +kernel
theorem dX4_placeForNew_29 : decode cX4_placeForNew 29 = .ok (.iload_n 2, 1) := by decide +kernel
theorem dX4_placeForNew_30 : decode cX4_placeForNew 30 = .ok (.ireturn, 1) := by decide +kernel
theorem dX4_placeForNew_31 : decode cX4_placeForNew 31 = .ok (.aload_n 0, 1) := by decide +kernel
theorem dX4_placeForNew_32 : decode cX4_placeForNew 32 = .ok (.getfield 19, 3) := by decide +kernel
theorem dX4_placeForNew_35 : decode cX4_placeForNew 35 = .ok (.iconst 0, 1) := by decide +kernel
theorem dX4_placeForNew_36 : decode cX4_placeForNew 36 = .ok (.bipush 32, 2) := by decide +kernel
theorem dX4_placeForNew_38 : decode cX4_placeForNew 38 = .ok (.invokevirtual 273, 3) := by decide +kernel
theorem dX4_placeForNew_41 : decode cX4_placeForNew 41 = .ok (.ireturn, 1) := by decide +kernel
set_option maxRecDepth 20000 in
theorem ggX4_putDeath_X2_putDeath : GoodIn wsX4_putDeath wsX2_putDeath := goodIn_r _ [13, 14, 15, 41, 42, 43, 44, 45] (by decide +kernel) (by decide +kernel)
set_option maxRecDepth 20000 in
theorem gX4_putDeath_X2_putDeath : GoodIn wsX4_putDeath (wsV RX4 279 RX2 yX2_putDeath wsX2_putDeath) := goodIn_app (goodIn_of _ (by decide +kernel)) ggX4_putDeath_X2_putDeath
set_option maxRecDepth 20000 in
theorem ggX4_putDeath_X4_pageOf : GoodIn wsX4_putDeath wsX4_pageOf := goodIn_r _ [19] (by decide +kernel) (by decide +kernel)
set_option maxRecDepth 20000 in
theorem gX4_putDeath_X4_pageOf : GoodIn wsX4_putDeath (va_wsS RX4 154 yX4_pageOf wsX4_pageOf) := goodIn_app (goodIn_of _ (by decide +kernel)) ggX4_putDeath_X4_pageOf
theorem dX4_putDeath_0 : decode cX4_putDeath 0 = .ok (.aload_n 0, 1) := by decide +kernel
theorem dX4_putDeath_1 : decode cX4_putDeath 1 = .ok (.getfield 19, 3) := by decide +kernel
theorem dX4_putDeath_4 : decode cX4_putDeath 4 = .ok (.getfield 247, 3) := by decide +kernel
theorem dX4_putDeath_7 : decode cX4_putDeath 7 = .ok (.iload_n 2, 1) := by decide +kernel
theorem dX4_putDeath_8 : decode cX4_putDeath 8 = .ok (.iload_n 1, 1) := by decide +kernel
theorem dX4_putDeath_9 : decode cX4_putDeath 9 = .ok (.iastore, 1) := by decide +kernel
theorem dX4_putDeath_10 : decode cX4_putDeath 10 = .ok (.aload_n 0, 1) := by decide +kernel
theorem dX4_putDeath_11 : decode cX4_putDeath 11 = .ok (.getfield 19, 3) := by decide +kernel
theorem dX4_putDeath_14 : decode cX4_putDeath 14 = .ok (.getfield 227, 3) := by decide +kernel
theorem dX4_putDeath_17 : decode cX4_putDeath 17 = .ok (.iload_n 2, 1) := by decide +kernel
theorem dX4_putDeath_18 : decode cX4_putDeath 18 = .ok (.aload_n 0, 1) := by decide +kernel
theorem dX4_putDeath_19 : decode cX4_putDeath 19 = .ok (.getfield 12, 3) := by decide +kernel
theorem dX4_putDeath_22 : decode cX4_putDeath 22 = .ok (.getfield 94, 3) := by decide +kernel
theorem dX4_putDeath_25 : decode cX4_putDeath 25 = .ok (.iload_n 1, 1) := by decide +kernel
theorem dX4_putDeath_26 : decode cX4_putDeath 26 = .ok (.iaload, 1) := by decide +kernel
theorem dX4_putDeath_27 : decode cX4_putDeath 27 = .ok (.iastore, 1) := by decide +kernel
theorem dX4_putDeath_28 : decode cX4_putDeath 28 = .ok (.aload_n 0, 1) := by decide +kernel
theorem dX4_putDeath_29 : decode cX4_putDeath 29 = .ok (.getfield 33, 3) := by decide +kernel
theorem dX4_putDeath_32 : decode cX4_putDeath 32 = .ok (.aload_n 0, 1) := by decide +kernel
theorem dX4_putDeath_33 : decode cX4_putDeath 33 = .ok (.getfield 19, 3) := by decide +kernel
theorem dX4_putDeath_36 : decode cX4_putDeath 36 = .ok (.getfield 276, 3) := by decide +kernel
theorem dX4_putDeath_39 : decode cX4_putDeath 39 = .ok (.iload_n 2, 1) := by decide +kernel
theorem dX4_putDeath_40 : decode cX4_putDeath 40 = .ok (.iaload, 1) := by decide +kernel
theorem dX4_putDeath_41 : decode cX4_putDeath 41 = .ok (.iload_n 1, 1) := by decide +kernel
theorem dX4_putDeath_42 : decode cX4_putDeath 42 = .ok (.invokevirtual 279, 3) := by decide +kernel
theorem dX4_putDeath_45 : decode cX4_putDeath 45 = .ok (.aload_n 0, 1) := by decide +kernel
theorem dX4_putDeath_46 : decode cX4_putDeath 46 = .ok (.getfield 37, 3) := by decide +kernel
theorem dX4_putDeath_49 : decode cX4_putDeath 49 = .ok (.iload_n 2, 1) := by decide +kernel
theorem dX4_putDeath_50 : decode cX4_putDeath 50 = .ok (.invokestatic 154, 3) := by decide +kernel
theorem dX4_putDeath_53 : decode cX4_putDeath 53 = .ok (.iconst 0, 1) := by decide +kernel
theorem dX4_putDeath_54 : decode cX4_putDeath 54 = .ok (.bastore, 1) := by decide +kernel
theorem dX4_putDeath_55 : decode cX4_putDeath 55 = .ok (.return_, 1) := by decide +kernel
set_option maxRecDepth 20000 in
theorem ggX4_putVersion_X2_add : GoodIn wsX4_putVersion wsX2_add := goodIn_r _ [15, 16, 17, 18, 19, 20, 46, 47, 48, 49, 50] (by decide +kernel) (by decide +kernel)
set_option maxRecDepth 20000 in
theorem gX4_putVersion_X2_add : GoodIn wsX4_putVersion (wsV RX4 280 RX2 yX2_add wsX2_add) := goodIn_app (goodIn_of _ (by decide +kernel)) ggX4_putVersion_X2_add
set_option maxRecDepth 20000 in
theorem ggX4_putVersion_X4_pageOf : GoodIn wsX4_putVersion wsX4_pageOf := goodIn_r _ [24] (by decide +kernel) (by decide +kernel)
set_option maxRecDepth 20000 in
theorem gX4_putVersion_X4_pageOf : GoodIn wsX4_putVersion (va_wsS RX4 154 yX4_pageOf wsX4_pageOf) := goodIn_app (goodIn_of _ (by decide +kernel)) ggX4_putVersion_X4_pageOf
theorem dX4_putVersion_0 : decode cX4_putVersion 0 = .ok (.aload_n 0, 1) := by decide +kernel
theorem dX4_putVersion_1 : decode cX4_putVersion 1 = .ok (.getfield 19, 3) := by decide +kernel
theorem dX4_putVersion_4 : decode cX4_putVersion 4 = .ok (.getfield 202, 3) := by decide +kernel
theorem dX4_putVersion_7 : decode cX4_putVersion 7 = .ok (.iload 4, 2) := by decide +kernel
theorem dX4_putVersion_9 : decode cX4_putVersion 9 = .ok (.iload_n 2, 1) := by decide +kernel
theorem dX4_putVersion_10 : decode cX4_putVersion 10 = .ok (.iastore, 1) := by decide +kernel
theorem dX4_putVersion_11 : decode cX4_putVersion 11 = .ok (.aload_n 0, 1) := by decide +kernel
theorem dX4_putVersion_12 : decode cX4_putVersion 12 = .ok (.getfield 19, 3) := by decide +kernel
theorem dX4_putVersion_15 : decode cX4_putVersion 15 = .ok (.getfield 115, 3) := by decide +kernel
theorem dX4_putVersion_18 : decode cX4_putVersion 18 = .ok (.iload 4, 2) := by decide +kernel
theorem dX4_putVersion_20 : decode cX4_putVersion 20 = .ok (.iload_n 3, 1) := by decide +kernel
theorem dX4_putVersion_21 : decode cX4_putVersion 21 = .ok (.iastore, 1) := by decide +kernel
theorem dX4_putVersion_22 : decode cX4_putVersion 22 = .ok (.aload_n 0, 1) := by decide +kernel
theorem dX4_putVersion_23 : decode cX4_putVersion 23 = .ok (.getfield 19, 3) := by decide +kernel
theorem dX4_putVersion_26 : decode cX4_putVersion 26 = .ok (.getfield 243, 3) := by decide +kernel
theorem dX4_putVersion_29 : decode cX4_putVersion 29 = .ok (.iload 4, 2) := by decide +kernel
theorem dX4_putVersion_31 : decode cX4_putVersion 31 = .ok (.iload_n 1, 1) := by decide +kernel
theorem dX4_putVersion_32 : decode cX4_putVersion 32 = .ok (.iastore, 1) := by decide +kernel
theorem dX4_putVersion_33 : decode cX4_putVersion 33 = .ok (.aload_n 0, 1) := by decide +kernel
theorem dX4_putVersion_34 : decode cX4_putVersion 34 = .ok (.getfield 19, 3) := by decide +kernel
theorem dX4_putVersion_37 : decode cX4_putVersion 37 = .ok (.getfield 216, 3) := by decide +kernel
theorem dX4_putVersion_40 : decode cX4_putVersion 40 = .ok (.iload 4, 2) := by decide +kernel
theorem dX4_putVersion_42 : decode cX4_putVersion 42 = .ok (.aload_n 0, 1) := by decide +kernel
theorem dX4_putVersion_43 : decode cX4_putVersion 43 = .ok (.getfield 12, 3) := by decide +kernel
theorem dX4_putVersion_46 : decode cX4_putVersion 46 = .ok (.getfield 94, 3) := by decide +kernel
theorem dX4_putVersion_49 : decode cX4_putVersion 49 = .ok (.iload_n 1, 1) := by decide +kernel
theorem dX4_putVersion_50 : decode cX4_putVersion 50 = .ok (.iaload, 1) := by decide +kernel
theorem dX4_putVersion_51 : decode cX4_putVersion 51 = .ok (.iastore, 1) := by decide +kernel
theorem dX4_putVersion_52 : decode cX4_putVersion 52 = .ok (.aload_n 0, 1) := by decide +kernel
theorem dX4_putVersion_53 : decode cX4_putVersion 53 = .ok (.getfield 19, 3) := by decide +kernel
theorem dX4_putVersion_56 : decode cX4_putVersion 56 = .ok (.getfield 276, 3) := by decide +kernel
theorem dX4_putVersion_59 : decode cX4_putVersion 59 = .ok (.iload 4, 2) := by decide +kernel
theorem dX4_putVersion_61 : decode cX4_putVersion 61 = .ok (.aload_n 0, 1) := by decide +kernel
theorem dX4_putVersion_62 : decode cX4_putVersion 62 = .ok (.getfield 33, 3) := by decide +kernel
theorem dX4_putVersion_65 : decode cX4_putVersion 65 = .ok (.iload_n 2, 1) := by decide +kernel
theorem dX4_putVersion_66 : decode cX4_putVersion 66 = .ok (.iload_n 3, 1) := by decide +kernel
theorem dX4_putVersion_67 : decode cX4_putVersion 67 = .ok (.iload_n 1, 1) := by decide +kernel
theorem dX4_putVersion_68 : decode cX4_putVersion 68 = .ok (.invokevirtual 280, 3) := by decide +kernel
theorem dX4_putVersion_71 : decode cX4_putVersion 71 = .ok (.iastore, 1) := by decide +kernel
theorem dX4_putVersion_72 : decode cX4_putVersion 72 = .ok (.aload_n 0, 1) := by decide +kernel
theorem dX4_putVersion_73 : decode cX4_putVersion 73 = .ok (.getfield 37, 3) := by decide +kernel
theorem dX4_putVersion_76 : decode cX4_putVersion 76 = .ok (.iload 4, 2) := by decide +kernel
theorem dX4_putVersion_78 : decode cX4_putVersion 78 = .ok (.invokestatic 154, 3) := by decide +kernel
theorem dX4_putVersion_81 : decode cX4_putVersion 81 = .ok (.iconst 0, 1) := by decide +kernel
theorem dX4_putVersion_82 : decode cX4_putVersion 82 = .ok (.bastore, 1) := by decide +kernel
theorem dX4_putVersion_83 : decode cX4_putVersion 83 = .ok (.return_, 1) := by decide +kernel
set_option maxRecDepth 20000 in
theorem ggX4_canGo_X1_isUsed : GoodIn wsX4_canGo wsX1_isUsed := goodIn_r _ [9, 10, 33, 34, 35, 36, 37, 38, 39, 40, 41] (by decide +kernel) (by decide +kernel)
set_option maxRecDepth 20000 in
theorem gX4_canGo_X1_isUsed : GoodIn wsX4_canGo (wsV RX4 193 RX1 yX1_isUsed wsX1_isUsed) := goodIn_app (goodIn_of _ (by decide +kernel)) ggX4_canGo_X1_isUsed
set_option maxRecDepth 20000 in
theorem ggX4_canGo_X3_isTakenBack : GoodIn wsX4_canGo wsX3_isTakenBack := goodIn_r _ [15, 16, 17, 18, 19, 20, 14, 21, 22, 23, 24, 25, 42, 43, 44, 45, 46, 47] (by decide +kernel) (by decide +kernel)
set_option maxRecDepth 20000 in
theorem gX4_canGo_X3_isTakenBack : GoodIn wsX4_canGo (wsV RX4 283 RX3 yX3_isTakenBack wsX3_isTakenBack) := goodIn_app (goodIn_of _ (by decide +kernel)) ggX4_canGo_X3_isTakenBack
set_option maxRecDepth 20000 in
theorem ggX4_canGo_X3_has : GoodIn wsX4_canGo wsX3_has := goodIn_r _ [25] (by decide +kernel) (by decide +kernel)
set_option maxRecDepth 20000 in
theorem gX4_canGo_X3_has : GoodIn wsX4_canGo (va_wsS RX4 286 yX3_has wsX3_has) := goodIn_app (goodIn_of _ (by decide +kernel)) ggX4_canGo_X3_has
theorem dX4_canGo_0 : decode cX4_canGo 0 = .ok (.aload_n 0, 1) := by decide +kernel
theorem dX4_canGo_1 : decode cX4_canGo 1 = .ok (.getfield 19, 3) := by decide +kernel
theorem dX4_canGo_4 : decode cX4_canGo 4 = .ok (.iload_n 1, 1) := by decide +kernel
theorem dX4_canGo_5 : decode cX4_canGo 5 = .ok (.invokevirtual 193, 3) := by decide +kernel
theorem dX4_canGo_8 : decode cX4_canGo 8 = .ok (.ifCond .eq 42, 3) := by decide +kernel
theorem dX4_canGo_11 : decode cX4_canGo 11 = .ok (.aload_n 0, 1) := by decide +kernel
theorem dX4_canGo_12 : decode cX4_canGo 12 = .ok (.getfield 12, 3) := by decide +kernel
theorem dX4_canGo_15 : decode cX4_canGo 15 = .ok (.aload_n 0, 1) := by decide +kernel
theorem dX4_canGo_16 : decode cX4_canGo 16 = .ok (.getfield 19, 3) := by decide +kernel
theorem dX4_canGo_19 : decode cX4_canGo 19 = .ok (.getfield 243, 3) := by decide +kernel
theorem dX4_canGo_22 : decode cX4_canGo 22 = .ok (.iload_n 1, 1) := by decide +kernel
theorem dX4_canGo_23 : decode cX4_canGo 23 = .ok (.iaload, 1) := by decide +kernel
theorem dX4_canGo_24 : decode cX4_canGo 24 = .ok (.invokevirtual 283, 3) := by decide +kernel
theorem dX4_canGo_27 : decode cX4_canGo 27 = .ok (.ifCond .ne 19, 3) := by decide +kernel
theorem dX4_canGo_30 : decode cX4_canGo 30 = .ok (.lload_n 2, 1) := by decide +kernel
theorem dX4_canGo_31 : decode cX4_canGo 31 = .ok (.aload_n 0, 1) := by decide +kernel
theorem dX4_canGo_32 : decode cX4_canGo 32 = .ok (.getfield 19, 3) := by decide +kernel
theorem dX4_canGo_35 : decode cX4_canGo 35 = .ok (.getfield 247, 3) := by decide +kernel
theorem dX4_canGo_38 : decode cX4_canGo 38 = .ok (.iload_n 1, 1) := by decide +kernel
theorem dX4_canGo_39 : decode cX4_canGo 39 = .ok (.iaload, 1) := by decide +kernel
theorem dX4_canGo_40 : decode cX4_canGo 40 = .ok (.invokestatic 286, 3) := by decide +kernel
theorem dX4_canGo_43 : decode cX4_canGo 43 = .ok (.ifCond .eq 7, 3) := by decide +kernel
theorem dX4_canGo_46 : decode cX4_canGo 46 = .ok (.iconst 1, 1) := by decide +kernel
theorem dX4_canGo_47 : decode cX4_canGo 47 = .ok (.goto 4, 3) := by decide +kernel
theorem dX4_canGo_50 : decode cX4_canGo 50 = .ok (.iconst 0, 1) := by decide +kernel
theorem dX4_canGo_51 : decode cX4_canGo 51 = .ok (.ireturn, 1) := by decide +kernel
set_option maxRecDepth 20000 in
theorem ggX4_isSeenByAll_X1_hasDeath : GoodIn wsX4_isSeenByAll wsX1_hasDeath := goodIn_r _ [8, 9, 20, 21, 22, 23, 24, 25, 26, 27, 28] (by decide +kernel) (by decide +kernel)
set_option maxRecDepth 20000 in
theorem gX4_isSeenByAll_X1_hasDeath : GoodIn wsX4_isSeenByAll (wsV RX4 206 RX1 yX1_hasDeath wsX1_hasDeath) := goodIn_app (goodIn_of _ (by decide +kernel)) ggX4_isSeenByAll_X1_hasDeath
set_option maxRecDepth 20000 in
theorem ggX4_isSeenByAll_X3_has : GoodIn wsX4_isSeenByAll wsX3_has := goodIn_r _ [13] (by decide +kernel) (by decide +kernel)
set_option maxRecDepth 20000 in
theorem gX4_isSeenByAll_X3_has : GoodIn wsX4_isSeenByAll (va_wsS RX4 286 yX3_has wsX3_has) := goodIn_app (goodIn_of _ (by decide +kernel)) ggX4_isSeenByAll_X3_has
theorem dX4_isSeenByAll_0 : decode cX4_isSeenByAll 0 = .ok (.aload_n 0, 1) := by decide +kernel
theorem dX4_isSeenByAll_1 : decode cX4_isSeenByAll 1 = .ok (.getfield 19, 3) := by decide +kernel
theorem dX4_isSeenByAll_4 : decode cX4_isSeenByAll 4 = .ok (.iload_n 1, 1) := by decide +kernel
theorem dX4_isSeenByAll_5 : decode cX4_isSeenByAll 5 = .ok (.invokevirtual 206, 3) := by decide +kernel
theorem dX4_isSeenByAll_8 : decode cX4_isSeenByAll 8 = .ok (.ifCond .ne 35, 3) := by decide +kernel
theorem dX4_isSeenByAll_11 : decode cX4_isSeenByAll 11 = .ok (.aload_n 0, 1) := by decide +kernel
theorem dX4_isSeenByAll_12 : decode cX4_isSeenByAll 12 = .ok (.getfield 19, 3) := by decide +kernel
theorem dX4_isSeenByAll_15 : decode cX4_isSeenByAll 15 = .ok (.getfield 203, 3) := by decide +kernel
theorem dX4_isSeenByAll_18 : decode cX4_isSeenByAll 18 = .ok (.iload_n 1, 1) := by decide +kernel
theorem dX4_isSeenByAll_19 : decode cX4_isSeenByAll 19 = .ok (.baload, 1) := by decide +kernel
theorem dX4_isSeenByAll_20 : decode cX4_isSeenByAll 20 = .ok (.ifCond .ne 19, 3) := by decide +kernel
theorem dX4_isSeenByAll_23 : decode cX4_isSeenByAll 23 = .ok (.lload_n 2, 1) := by decide +kernel
theorem dX4_isSeenByAll_24 : decode cX4_isSeenByAll 24 = .ok (.aload_n 0, 1) := by decide +kernel
theorem dX4_isSeenByAll_25 : decode cX4_isSeenByAll 25 = .ok (.getfield 19, 3) := by decide +kernel
theorem dX4_isSeenByAll_28 : decode cX4_isSeenByAll 28 = .ok (.getfield 243, 3) := by decide +kernel
theorem dX4_isSeenByAll_31 : decode cX4_isSeenByAll 31 = .ok (.iload_n 1, 1) := by decide +kernel
theorem dX4_isSeenByAll_32 : decode cX4_isSeenByAll 32 = .ok (.iaload, 1) := by decide +kernel
theorem dX4_isSeenByAll_33 : decode cX4_isSeenByAll 33 = .ok (.invokestatic 286, 3) := by decide +kernel
theorem dX4_isSeenByAll_36 : decode cX4_isSeenByAll 36 = .ok (.ifCond .eq 7, 3) := by decide +kernel
theorem dX4_isSeenByAll_39 : decode cX4_isSeenByAll 39 = .ok (.iconst 1, 1) := by decide +kernel
theorem dX4_isSeenByAll_40 : decode cX4_isSeenByAll 40 = .ok (.goto 4, 3) := by decide +kernel
theorem dX4_isSeenByAll_43 : decode cX4_isSeenByAll 43 = .ok (.iconst 0, 1) := by decide +kernel
theorem dX4_isSeenByAll_44 : decode cX4_isSeenByAll 44 = .ok (.ireturn, 1) := by decide +kernel
set_option maxRecDepth 20000 in
theorem ggX4_takeOut_X1_bypass : GoodIn wsX4_takeOut wsX1_bypass := goodIn_r _ [9, 10, 33, 34, 35, 36, 37, 38, 39, 40, 41] (by decide +kernel) (by decide +kernel)
set_option maxRecDepth 20000 in
theorem gX4_takeOut_X1_bypass : GoodIn wsX4_takeOut (wsV RX4 290 RX1 yX1_bypass wsX1_bypass) := goodIn_app (goodIn_of _ (by decide +kernel)) ggX4_takeOut_X1_bypass
set_option maxRecDepth 20000 in
theorem ggX4_takeOut_X0_move : GoodIn wsX4_takeOut wsX0_move := goodIn_r _ [15, 16, 17, 42, 43] (by decide +kernel) (by decide +kernel)
set_option maxRecDepth 20000 in
theorem gX4_takeOut_X0_move : GoodIn wsX4_takeOut (wsV RX4 293 RX0 yX0_move wsX0_move) := goodIn_app (goodIn_of _ (by decide +kernel)) ggX4_takeOut_X0_move
set_option maxRecDepth 20000 in
theorem ggX4_takeOut_X1_empty : GoodIn wsX4_takeOut wsX1_empty := goodIn_r _ [21, 22, 23, 24, 25, 10, 26, 33, 34, 35, 36, 37, 38, 39, 40, 41] (by decide +kernel) (by decide +kernel)
set_option maxRecDepth 20000 in
theorem gX4_takeOut_X1_empty : GoodIn wsX4_takeOut (wsV RX4 297 RX1 yX1_empty wsX1_empty) := goodIn_app (goodIn_of _ (by decide +kernel)) ggX4_takeOut_X1_empty
theorem dX4_takeOut_0 : decode cX4_takeOut 0 = .ok (.aload_n 0, 1) := by decide +kernel
theorem dX4_takeOut_1 : decode cX4_takeOut 1 = .ok (.getfield 19, 3) := by decide +kernel
theorem dX4_takeOut_4 : decode cX4_takeOut 4 = .ok (.getfield 157, 3) := by decide +kernel
theorem dX4_takeOut_7 : decode cX4_takeOut 7 = .ok (.iload_n 1, 1) := by decide +kernel
theorem dX4_takeOut_8 : decode cX4_takeOut 8 = .ok (.iaload, 1) := by decide +kernel
theorem dX4_takeOut_9 : decode cX4_takeOut 9 = .ok (.istore_n 2, 1) := by decide +kernel
theorem dX4_takeOut_10 : decode cX4_takeOut 10 = .ok (.aload_n 0, 1) := by decide +kernel
theorem dX4_takeOut_11 : decode cX4_takeOut 11 = .ok (.getfield 19, 3) := by decide +kernel
theorem dX4_takeOut_14 : decode cX4_takeOut 14 = .ok (.iload_n 1, 1) := by decide +kernel
theorem dX4_takeOut_15 : decode cX4_takeOut 15 = .ok (.iload_n 2, 1) := by decide +kernel
theorem dX4_takeOut_16 : decode cX4_takeOut 16 = .ok (.invokevirtual 290, 3) := by decide +kernel
theorem dX4_takeOut_19 : decode cX4_takeOut 19 = .ok (.aload_n 0, 1) := by decide +kernel
theorem dX4_takeOut_20 : decode cX4_takeOut 20 = .ok (.getfield 26, 3) := by decide +kernel
theorem dX4_takeOut_23 : decode cX4_takeOut 23 = .ok (.aload_n 0, 1) := by decide +kernel
theorem dX4_takeOut_24 : decode cX4_takeOut 24 = .ok (.getfield 19, 3) := by decide +kernel
theorem dX4_takeOut_27 : decode cX4_takeOut 27 = .ok (.getfield 202, 3) := by decide +kernel
theorem dX4_takeOut_30 : decode cX4_takeOut 30 = .ok (.iload_n 1, 1) := by decide +kernel
theorem dX4_takeOut_31 : decode cX4_takeOut 31 = .ok (.iaload, 1) := by decide +kernel
theorem dX4_takeOut_32 : decode cX4_takeOut 32 = .ok (.iload_n 1, 1) := by decide +kernel
theorem dX4_takeOut_33 : decode cX4_takeOut 33 = .ok (.iload_n 2, 1) := by decide +kernel
theorem dX4_takeOut_34 : decode cX4_takeOut 34 = .ok (.invokevirtual 293, 3) := by decide +kernel
theorem dX4_takeOut_37 : decode cX4_takeOut 37 = .ok (.aload_n 0, 1) := by decide +kernel
theorem dX4_takeOut_38 : decode cX4_takeOut 38 = .ok (.getfield 19, 3) := by decide +kernel
theorem dX4_takeOut_41 : decode cX4_takeOut 41 = .ok (.iload_n 1, 1) := by decide +kernel
theorem dX4_takeOut_42 : decode cX4_takeOut 42 = .ok (.invokevirtual 297, 3) := by decide +kernel
theorem dX4_takeOut_45 : decode cX4_takeOut 45 = .ok (.return_, 1) := by decide +kernel
set_option maxRecDepth 20000 in
theorem ggX4_freezeOldOnes_X4_firstOf : GoodIn wsX4_freezeOldOnes wsX4_firstOf := goodIn_r _ [10] (by decide +kernel) (by decide +kernel)
set_option maxRecDepth 20000 in
theorem gX4_freezeOldOnes_X4_firstOf : GoodIn wsX4_freezeOldOnes (va_wsS RX4 174 yX4_firstOf wsX4_firstOf) := goodIn_app (goodIn_of _ (by decide +kernel)) ggX4_freezeOldOnes_X4_firstOf
set_option maxRecDepth 20000 in
theorem ggX4_freezeOldOnes_X1_isUsed : GoodIn wsX4_freezeOldOnes wsX1_isUsed := goodIn_r _ [15, 16, 38, 39, 40, 41, 42, 43, 44, 45, 46] (by decide +kernel) (by decide +kernel)
set_option maxRecDepth 20000 in
theorem gX4_freezeOldOnes_X1_isUsed : GoodIn wsX4_freezeOldOnes (wsV RX4 193 RX1 yX1_isUsed wsX1_isUsed) := goodIn_app (goodIn_of _ (by decide +kernel)) ggX4_freezeOldOnes_X1_isUsed
set_option maxRecDepth 20000 in
theorem ggX4_freezeOldOnes_X3_ageOf : GoodIn wsX4_freezeOldOnes wsX3_ageOf := goodIn_r _ [21, 22, 23, 9, 24, 25, 26, 27, 28, 47, 48, 49, 50, 51, 52] (by decide +kernel) (by decide +kernel)
set_option maxRecDepth 20000 in
theorem gX4_freezeOldOnes_X3_ageOf : GoodIn wsX4_freezeOldOnes (wsV RX4 219 RX3 yX3_ageOf wsX3_ageOf) := goodIn_app (goodIn_of _ (by decide +kernel)) ggX4_freezeOldOnes_X3_ageOf
set_option maxRecDepth 20000 in
theorem ggX4_freezeOldOnes_X3_has : GoodIn wsX4_freezeOldOnes wsX3_has := goodIn_r _ [31] (by decide +kernel) (by decide +kernel)
set_option maxRecDepth 20000 in
theorem gX4_freezeOldOnes_X3_has : GoodIn wsX4_freezeOldOnes (va_wsS RX4 286 yX3_has wsX3_has) := goodIn_app (goodIn_of _ (by decide +kernel)) ggX4_freezeOldOnes_X3_has
theorem dX4_freezeOldOnes_0 : decode cX4_freezeOldOnes 0 = .ok (.iload_n 1, 1) := by decide +kernel
theorem dX4_freezeOldOnes_1 : decode cX4_freezeOldOnes 1 = .ok (.invokestatic 174, 3) := by decide +kernel
theorem dX4_freezeOldOnes_4 : decode cX4_freezeOldOnes 4 = .ok (.istore 4, 2) := by decide +kernel
theorem dX4_freezeOldOnes_6 : decode cX4_freezeOldOnes 6 = .ok (.iload 4, 2) := by decide +kernel
theorem dX4_freezeOldOnes_8 : decode cX4_freezeOldOnes 8 = .ok (.iload_n 1, 1) := by decide +kernel
theorem dX4_freezeOldOnes_9 : decode cX4_freezeOldOnes 9 = .ok (.invokestatic 174, 3) := by decide +kernel
theorem dX4_freezeOldOnes_12 : decode cX4_freezeOldOnes 12 = .ok (.bipush 8, 2) := by decide +kernel
theorem dX4_freezeOldOnes_14 : decode cX4_freezeOldOnes 14 = .ok (.iadd, 1) := by decide +kernel
theorem dX4_freezeOldOnes_15 : decode cX4_freezeOldOnes 15 = .ok (.if_icmp .ge 73, 3) := by decide +kernel
theorem dX4_freezeOldOnes_18 : decode cX4_freezeOldOnes 18 = .ok (.aload_n 0, 1) := by decide +kernel
theorem dX4_freezeOldOnes_19 : decode cX4_freezeOldOnes 19 = .ok (.getfield 19, 3) := by decide +kernel
theorem dX4_freezeOldOnes_22 : decode cX4_freezeOldOnes 22 = .ok (.iload 4, 2) := by decide +kernel
theorem dX4_freezeOldOnes_24 : decode cX4_freezeOldOnes 24 = .ok (.invokevirtual 193, 3) := by decide +kernel
theorem dX4_freezeOldOnes_27 : decode cX4_freezeOldOnes 27 = .ok (.ifCond .eq 55, 3) := by decide +kernel
theorem dX4_freezeOldOnes_30 : decode cX4_freezeOldOnes 30 = .ok (.aload_n 0, 1) := by decide +kernel
theorem dX4_freezeOldOnes_31 : decode cX4_freezeOldOnes 31 = .ok (.getfield 12, 3) := by decide +kernel
theorem dX4_freezeOldOnes_34 : decode cX4_freezeOldOnes 34 = .ok (.aload_n 0, 1) := by decide +kernel
theorem dX4_freezeOldOnes_35 : decode cX4_freezeOldOnes 35 = .ok (.getfield 19, 3) := by decide +kernel
theorem dX4_freezeOldOnes_38 : decode cX4_freezeOldOnes 38 = .ok (.getfield 216, 3) := by decide +kernel
theorem dX4_freezeOldOnes_41 : decode cX4_freezeOldOnes 41 = .ok (.iload 4, 2) := by decide +kernel
theorem dX4_freezeOldOnes_43 : decode cX4_freezeOldOnes 43 = .ok (.iaload, 1) := by decide +kernel
theorem dX4_freezeOldOnes_44 : decode cX4_freezeOldOnes 44 = .ok (.invokevirtual 219, 3) := by decide +kernel
theorem dX4_freezeOldOnes_47 : decode cX4_freezeOldOnes 47 = .ok (.aload_n 0, 1) := by decide +kernel
theorem dX4_freezeOldOnes_48 : decode cX4_freezeOldOnes 48 = .ok (.getfield 41, 3) := by decide +kernel
theorem dX4_freezeOldOnes_51 : decode cX4_freezeOldOnes 51 = .ok (.if_icmp .lt 31, 3) := by decide +kernel
theorem dX4_freezeOldOnes_54 : decode cX4_freezeOldOnes 54 = .ok (.lload_n 2, 1) := by decide +kernel
theorem dX4_freezeOldOnes_55 : decode cX4_freezeOldOnes 55 = .ok (.aload_n 0, 1) := by decide +kernel
theorem dX4_freezeOldOnes_56 : decode cX4_freezeOldOnes 56 = .ok (.getfield 19, 3) := by decide +kernel
theorem dX4_freezeOldOnes_59 : decode cX4_freezeOldOnes 59 = .ok (.getfield 243, 3) := by decide +kernel
theorem dX4_freezeOldOnes_62 : decode cX4_freezeOldOnes 62 = .ok (.iload 4, 2) := by decide +kernel
theorem dX4_freezeOldOnes_64 : decode cX4_freezeOldOnes 64 = .ok (.iaload, 1) := by decide +kernel
theorem dX4_freezeOldOnes_65 : decode cX4_freezeOldOnes 65 = .ok (.invokestatic 286, 3) := by decide +kernel
theorem dX4_freezeOldOnes_68 : decode cX4_freezeOldOnes 68 = .ok (.ifCond .eq 14, 3) := by decide +kernel
theorem dX4_freezeOldOnes_71 : decode cX4_freezeOldOnes 71 = .ok (.aload_n 0, 1) := by decide +kernel
theorem dX4_freezeOldOnes_72 : decode cX4_freezeOldOnes 72 = .ok (.getfield 19, 3) := by decide +kernel
theorem dX4_freezeOldOnes_75 : decode cX4_freezeOldOnes 75 = .ok (.getfield 203, 3) := by decide +kernel
theorem dX4_freezeOldOnes_78 : decode cX4_freezeOldOnes 78 = .ok (.iload 4, 2) := by decide +kernel
theorem dX4_freezeOldOnes_80 : decode cX4_freezeOldOnes 80 = .ok (.iconst 1, 1) := by decide +kernel
theorem dX4_freezeOldOnes_81 : decode cX4_freezeOldOnes 81 = .ok (.bastore, 1) := by decide +kernel
theorem dX4_freezeOldOnes_82 : decode cX4_freezeOldOnes 82 = .ok (.iinc 4 1, 3) := by decide +kernel
theorem dX4_freezeOldOnes_85 : decode cX4_freezeOldOnes 85 = .ok (.goto (-79), 3) := by decide +kernel
theorem dX4_freezeOldOnes_88 : decode cX4_freezeOldOnes 88 = .ok (.return_, 1) := by decide +kernel
end
section
theorem dX5_init_0 : decode cX5_init 0 = .ok (.aload_n 0, 1) := by decide +kernel
theorem dX5_init_1 : decode cX5_init 1 = .ok (.invokespecial 1, 3) := by decide +kernel
theorem dX5_init_4 : decode cX5_init 4 = .ok (.aload_n 0, 1) := by decide +kernel
theorem dX5_init_5 : decode cX5_init 5 = .ok (.bipush 20, 2) := by decide +kernel
theorem dX5_init_7 : decode cX5_init 7 = .ok (.putfield 7, 3) := by decide +kernel
theorem dX5_init_10 : decode cX5_init 10 = .ok (.aload_n 0, 1) := by decide +kernel
theorem dX5_init_11 : decode cX5_init 11 = .ok (.bipush 60, 2) := by decide +kernel
theorem dX5_init_13 : decode cX5_init 13 = .ok (.newarray .int, 2) := by decide +kernel
theorem dX5_init_15 : decode cX5_init 15 = .ok (.putfield 13, 3) := by decide +kernel
theorem dX5_init_18 : decode cX5_init 18 = .ok (.aload_n 0, 1) := by decide +kernel
theorem dX5_init_19 : decode cX5_init 19 = .ok (.bipush 60, 2) := by decide +kernel
theorem dX5_init_21 : decode cX5_init 21 = .ok (.newarray .int, 2) := by decide +kernel
theorem dX5_init_23 : decode cX5_init 23 = .ok (.putfield 17, 3) := by decide +kernel
theorem dX5_init_26 : decode cX5_init 26 = .ok (.aload_n 0, 1) := by decide +kernel
theorem dX5_init_27 : decode cX5_init 27 = .ok (.bipush 60, 2) := by decide +kernel
theorem dX5_init_29 : decode cX5_init 29 = .ok (.newarray .long, 2) := by decide +kernel
theorem dX5_init_31 : decode cX5_init 31 = .ok (.putfield 20, 3) := by decide +kernel
theorem dX5_init_34 : decode cX5_init 34 = .ok (.aload_n 0, 1) := by decide +kernel
theorem dX5_init_35 : decode cX5_init 35 = .ok (.bipush 32, 2) := by decide +kernel
theorem dX5_init_37 : decode cX5_init 37 = .ok (.newarray .boolean, 2) := by decide +kernel
theorem dX5_init_39 : decode cX5_init 39 = .ok (.putfield 24, 3) := by decide +kernel
theorem dX5_init_42 : decode cX5_init 42 = .ok (.aload_n 0, 1) := by decide +kernel
theorem dX5_init_43 : decode cX5_init 43 = .ok (.bipush 32, 2) := by decide +kernel
theorem dX5_init_45 : decode cX5_init 45 = .ok (.newarray .int, 2) := by decide +kernel
theorem dX5_init_47 : decode cX5_init 47 = .ok (.putfield 28, 3) := by decide +kernel
theorem dX5_init_50 : decode cX5_init 50 = .ok (.aload_n 0, 1) := by decide +kernel
theorem dX5_init_51 : decode cX5_init 51 = .ok (.bipush 32, 2) := by decide +kernel
theorem dX5_init_53 : decode cX5_init 53 = .ok (.newarray .int, 2) := by decide +kernel
theorem dX5_init_55 : decode cX5_init 55 = .ok (.putfield 31, 3) := by decide +kernel
theorem dX5_init_58 : decode cX5_init 58 = .ok (.aload_n 0, 1) := by decide +kernel
theorem dX5_init_59 : decode cX5_init 59 = .ok (.bipush 32, 2) := by decide +kernel
theorem dX5_init_61 : decode cX5_init 61 = .ok (.newarray .int, 2) := by decide +kernel
theorem dX5_init_63 : decode cX5_init 63 = .ok (.putfield 34, 3) := by decide +kernel
theorem dX5_init_66 : decode cX5_init 66 = .ok (.aload_n 0, 1) := by decide +kernel
theorem dX5_init_67 : decode cX5_init 67 = .ok (.bipush 32, 2) := by decide +kernel
theorem dX5_init_69 : decode cX5_init 69 = .ok (.newarray .boolean, 2) := by decide +kernel
theorem dX5_init_71 : decode cX5_init 71 = .ok (.putfield 37, 3) := by decide +kernel
theorem dX5_init_74 : decode cX5_init 74 = .ok (.aload_n 0, 1) := by decide +kernel
theorem dX5_init_75 : decode cX5_init 75 = .ok (.bipush 32, 2) := by decide +kernel
theorem dX5_init_77 : decode cX5_init 77 = .ok (.newarray .int, 2) := by decide +kernel
theorem dX5_init_79 : decode cX5_init 79 = .ok (.putfield 40, 3) := by decide +kernel
theorem dX5_init_82 : decode cX5_init 82 = .ok (.aload_n 0, 1) := by decide +kernel
theorem dX5_init_83 : decode cX5_init 83 = .ok (.bipush 32, 2) := by decide +kernel
theorem dX5_init_85 : decode cX5_init 85 = .ok (.newarray .int, 2) := by decide +kernel
theorem dX5_init_87 : decode cX5_init 87 = .ok (.putfield 43, 3) := by decide +kernel
theorem dX5_init_90 : decode cX5_init 90 = .ok (.aload_n 0, 1) := by decide +kernel
theorem dX5_init_91 : decode cX5_init 91 = .ok (.iconst 4, 1) := by decide +kernel
theorem dX5_init_92 : decode cX5_init 92 = .ok (.newarray .boolean, 2) := by decide +kernel
theorem dX5_init_94 : decode cX5_init 94 = .ok (.putfield 46, 3) := by decide +kernel
theorem dX5_init_97 : decode cX5_init 97 = .ok (.aload_n 0, 1) := by decide +kernel
theorem dX5_init_98 : decode cX5_init 98 = .ok (.sipush 384, 3) := by decide +kernel
theorem dX5_init_101 : decode cX5_init 101 = .ok (.newarray .int, 2) := by decide +kernel
theorem dX5_init_103 : decode cX5_init 103 = .ok (.putfield 49, 3) := by decide +kernel
theorem dX5_init_106 : decode cX5_init 106 = .ok (.aload_n 0, 1) := by decide +kernel
theorem dX5_init_107 : decode cX5_init 107 = .ok (.bipush 6, 2) := by decide +kernel
theorem dX5_init_109 : decode cX5_init 109 = .ok (.newarray .int, 2) := by decide +kernel
theorem dX5_init_111 : decode cX5_init 111 = .ok (.putfield 52, 3) := by decide +kernel
theorem dX5_init_114 : decode cX5_init 114 = .ok (.return_, 1) := by decide +kernel
theorem dX5_thrown_0 : decode cX5_thrown 0 = .ok (.aload_n 0, 1) := by decide +kernel
theorem dX5_thrown_1 : decode cX5_thrown 1 = .ok (.getfield 55, 3) := by decide +kernel
theorem dX5_thrown_4 : decode cX5_thrown 4 = .ok (.ireturn, 1) := by decide +kernel
theorem dX5_isFine_0 : decode cX5_isFine 0 = .ok (.aload_n 0, 1) := by decide +kernel
theorem dX5_isFine_1 : decode cX5_isFine 1 = .ok (.iload_n 1, 1) := by decide +kernel
theorem dX5_isFine_2 : decode cX5_isFine 2 = .ok (.putfield 55, 3) := by decide +kernel
theorem dX5_isFine_5 : decode cX5_isFine 5 = .ok (.iload_n 1, 1) := by decide +kernel
theorem dX5_isFine_6 : decode cX5_isFine 6 = .ok (.ifCond .ne 7, 3) := by decide +kernel
theorem dX5_isFine_9 : decode cX5_isFine 9 = .ok (.iconst 1, 1) := by decide +kernel
theorem dX5_isFine_10 : decode cX5_isFine 10 = .ok (.goto 4, 3) := by decide +kernel
theorem dX5_isFine_13 : decode cX5_isFine 13 = .ok (.iconst 0, 1) := by decide +kernel
theorem dX5_isFine_14 : decode cX5_isFine 14 = .ok (.ireturn, 1) := by decide +kernel
theorem dX5_isIn_0 : decode cX5_isIn 0 = .ok (.iload_n 0, 1) := by decide +kernel
theorem dX5_isIn_1 : decode cX5_isIn 1 = .ok (.iload_n 1, 1) := by decide +kernel
theorem dX5_isIn_2 : decode cX5_isIn 2 = .ok (.if_icmp .lt 12, 3) := by decide +kernel
theorem dX5_isIn_5 : decode cX5_isIn 5 = .ok (.iload_n 0, 1) := by decide +kernel
theorem dX5_isIn_6 : decode cX5_isIn 6 = .ok (.iload_n 2, 1) := by decide +kernel
theorem dX5_isIn_7 : decode cX5_isIn 7 = .ok (.if_icmp .gt 7, 3) := by decide +kernel
theorem dX5_isIn_10 : decode cX5_isIn 10 = .ok (.iconst 1, 1) := by decide +kernel
theorem dX5_isIn_11 : decode cX5_isIn 11 = .ok (.goto 4, 3) := by decide +kernel
theorem dX5_isIn_14 : decode cX5_isIn 14 = .ok (.iconst 0, 1) := by decide +kernel
theorem dX5_isIn_15 : decode cX5_isIn 15 = .ok (.ireturn, 1) := by decide +kernel
set_option maxRecDepth 20000 in
theorem ggX5_isTransaction_X5_isIn : GoodIn wsX5_isTransaction wsX5_isIn := goodIn_r _ [5] (by decide +kernel) (by decide +kernel)
set_option maxRecDepth 20000 in
theorem gX5_isTransaction_X5_isIn : GoodIn wsX5_isTransaction (va_wsS RX5 61 yX5_isIn wsX5_isIn) := goodIn_app (goodIn_of _ (by decide +kernel)) ggX5_isTransaction_X5_isIn
theorem dX5_isTransaction_0 : decode cX5_isTransaction 0 = .ok (.iload_n 1, 1) := by decide +kernel
theorem dX5_isTransaction_1 : decode cX5_isTransaction 1 = .ok (.iconst 0, 1) := by decide +kernel
theorem dX5_isTransaction_2 : decode cX5_isTransaction 2 = .ok (.aload_n 0, 1) := by decide +kernel
theorem dX5_isTransaction_3 : decode cX5_isTransaction 3 = .ok (.getfield 58, 3) := by decide +kernel
theorem dX5_isTransaction_6 : decode cX5_isTransaction 6 = .ok (.iconst 1, 1) := by decide +kernel
theorem dX5_isTransaction_7 : decode cX5_isTransaction 7 = .ok (.isub, 1) := by decide +kernel
theorem dX5_isTransaction_8 : decode cX5_isTransaction 8 = .ok (.invokestatic 61, 3) := by decide +kernel
theorem dX5_isTransaction_11 : decode cX5_isTransaction 11 = .ok (.ireturn, 1) := by decide +kernel
theorem dX5_isActive_0 : decode cX5_isActive 0 = .ok (.aload_n 0, 1) := by decide +kernel
theorem dX5_isActive_1 : decode cX5_isActive 1 = .ok (.getfield 17, 3) := by decide +kernel
theorem dX5_isActive_4 : decode cX5_isActive 4 = .ok (.iload_n 1, 1) := by decide +kernel
theorem dX5_isActive_5 : decode cX5_isActive 5 = .ok (.iaload, 1) := by decide +kernel
theorem dX5_isActive_6 : decode cX5_isActive 6 = .ok (.ifCond .ne 7, 3) := by decide +kernel
theorem dX5_isActive_9 : decode cX5_isActive 9 = .ok (.iconst 1, 1) := by decide +kernel
theorem dX5_isActive_10 : decode cX5_isActive 10 = .ok (.goto 4, 3) := by decide +kernel
theorem dX5_isActive_13 : decode cX5_isActive 13 = .ok (.iconst 0, 1) := by decide +kernel
theorem dX5_isActive_14 : decode cX5_isActive 14 = .ok (.ireturn, 1) := by decide +kernel
set_option maxRecDepth 20000 in
theorem ggX5_isKey_X5_isIn : GoodIn wsX5_isKey wsX5_isIn := goodIn_r _ [4] (by decide +kernel) (by decide +kernel)
set_option maxRecDepth 20000 in
theorem gX5_isKey_X5_isIn : GoodIn wsX5_isKey (va_wsS RX5 61 yX5_isIn wsX5_isIn) := goodIn_app (goodIn_of _ (by decide +kernel)) ggX5_isKey_X5_isIn
theorem dX5_isKey_0 : decode cX5_isKey 0 = .ok (.iload_n 0, 1) := by decide +kernel
theorem dX5_isKey_1 : decode cX5_isKey 1 = .ok (.iconst 0, 1) := by decide +kernel
theorem dX5_isKey_2 : decode cX5_isKey 2 = .ok (.iconst 5, 1) := by decide +kernel
theorem dX5_isKey_3 : decode cX5_isKey 3 = .ok (.invokestatic 61, 3) := by decide +kernel
theorem dX5_isKey_6 : decode cX5_isKey 6 = .ok (.ireturn, 1) := by decide +kernel
set_option maxRecDepth 20000 in
theorem ggX5_isPage_X5_isIn : GoodIn wsX5_isPage wsX5_isIn := goodIn_r _ [4] (by decide +kernel) (by decide +kernel)
set_option maxRecDepth 20000 in
theorem gX5_isPage_X5_isIn : GoodIn wsX5_isPage (va_wsS RX5 61 yX5_isIn wsX5_isIn) := goodIn_app (goodIn_of _ (by decide +kernel)) ggX5_isPage_X5_isIn
theorem dX5_isPage_0 : decode cX5_isPage 0 = .ok (.iload_n 0, 1) := by decide +kernel
theorem dX5_isPage_1 : decode cX5_isPage 1 = .ok (.iconst 0, 1) := by decide +kernel
theorem dX5_isPage_2 : decode cX5_isPage 2 = .ok (.iconst 3, 1) := by decide +kernel
theorem dX5_isPage_3 : decode cX5_isPage 3 = .ok (.invokestatic 61, 3) := by decide +kernel
theorem dX5_isPage_6 : decode cX5_isPage 6 = .ok (.ireturn, 1) := by decide +kernel
theorem dX5_isInSnapshot_0 : decode cX5_isInSnapshot 0 = .ok (.aload_n 0, 1) := by decide +kernel
theorem dX5_isInSnapshot_1 : decode cX5_isInSnapshot 1 = .ok (.getfield 20, 3) := by decide +kernel
theorem dX5_isInSnapshot_4 : decode cX5_isInSnapshot 4 = .ok (.iload_n 1, 1) := by decide +kernel
theorem dX5_isInSnapshot_5 : decode cX5_isInSnapshot 5 = .ok (.laload, 1) := by decide +kernel
theorem dX5_isInSnapshot_6 : decode cX5_isInSnapshot 6 = .ok (.iload_n 2, 1) := by decide +kernel
theorem dX5_isInSnapshot_7 : decode cX5_isInSnapshot 7 = .ok (.lshr, 1) := by decide +kernel
theorem dX5_isInSnapshot_8 : decode cX5_isInSnapshot 8 = .ok (.lconst 1, 1) := by decide +kernel
theorem dX5_isInSnapshot_9 : decode cX5_isInSnapshot 9 = .ok (.land, 1) := by decide +kernel
theorem dX5_isInSnapshot_10 : decode cX5_isInSnapshot 10 = .ok (.lconst 1, 1) := by decide +kernel
theorem dX5_isInSnapshot_11 : decode cX5_isInSnapshot 11 = .ok (.lcmp, 1) := by decide +kernel
theorem dX5_isInSnapshot_12 : decode cX5_isInSnapshot 12 = .ok (.ifCond .ne 7, 3) := by decide +kernel
theorem dX5_isInSnapshot_15 : decode cX5_isInSnapshot 15 = .ok (.iconst 1, 1) := by decide +kernel
theorem dX5_isInSnapshot_16 : decode cX5_isInSnapshot 16 = .ok (.goto 4, 3) := by decide +kernel
theorem dX5_isInSnapshot_19 : decode cX5_isInSnapshot 19 = .ok (.iconst 0, 1) := by decide +kernel
theorem dX5_isInSnapshot_20 : decode cX5_isInSnapshot 20 = .ok (.ireturn, 1) := by decide +kernel
theorem dX5_ageOf_0 : decode cX5_ageOf 0 = .ok (.aload_n 0, 1) := by decide +kernel
theorem dX5_ageOf_1 : decode cX5_ageOf 1 = .ok (.getfield 65, 3) := by decide +kernel
theorem dX5_ageOf_4 : decode cX5_ageOf 4 = .ok (.aload_n 0, 1) := by decide +kernel
theorem dX5_ageOf_5 : decode cX5_ageOf 5 = .ok (.getfield 13, 3) := by decide +kernel
theorem dX5_ageOf_8 : decode cX5_ageOf 8 = .ok (.iload_n 1, 1) := by decide +kernel
theorem dX5_ageOf_9 : decode cX5_ageOf 9 = .ok (.iaload, 1) := by decide +kernel
theorem dX5_ageOf_10 : decode cX5_ageOf 10 = .ok (.isub, 1) := by decide +kernel
theorem dX5_ageOf_11 : decode cX5_ageOf 11 = .ok (.bipush 64, 2) := by decide +kernel
theorem dX5_ageOf_13 : decode cX5_ageOf 13 = .ok (.iadd, 1) := by decide +kernel
theorem dX5_ageOf_14 : decode cX5_ageOf 14 = .ok (.bipush 64, 2) := by decide +kernel
theorem dX5_ageOf_16 : decode cX5_ageOf 16 = .ok (.irem, 1) := by decide +kernel
theorem dX5_ageOf_17 : decode cX5_ageOf 17 = .ok (.ireturn, 1) := by decide +kernel
set_option maxRecDepth 20000 in
theorem ggX5_isPast_X5_isActive : GoodIn wsX5_isPast wsX5_isActive := goodIn_r _ [7, 1, 13, 14, 15, 16, 17, 18, 19, 20, 21, 22, 23, 24, 25, 26, 27, 28, 29] (by decide +kernel) (by decide +kernel)
set_option maxRecDepth 20000 in
theorem gX5_isPast_X5_isActive : GoodIn wsX5_isPast (wsV RX5 68 RX5 yX5_isActive wsX5_isActive) := goodIn_app (goodIn_of _ (by decide +kernel)) ggX5_isPast_X5_isActive
set_option maxRecDepth 20000 in
theorem ggX5_isPast_X5_isInSnapshot : GoodIn wsX5_isPast wsX5_isInSnapshot := goodIn_r _ [11, 12, 13, 14, 15, 16, 17, 18, 19, 20, 21, 22, 23, 24, 25, 26, 27, 28, 29] (by decide +kernel) (by decide +kernel)
set_option maxRecDepth 20000 in
theorem gX5_isPast_X5_isInSnapshot : GoodIn wsX5_isPast (wsV RX5 72 RX5 yX5_isInSnapshot wsX5_isInSnapshot) := goodIn_app (goodIn_of _ (by decide +kernel)) ggX5_isPast_X5_isInSnapshot
theorem dX5_isPast_0 : decode cX5_isPast 0 = .ok (.aload_n 0, 1) := by decide +kernel
theorem dX5_isPast_1 : decode cX5_isPast 1 = .ok (.getfield 17, 3) := by decide +kernel
theorem dX5_isPast_4 : decode cX5_isPast 4 = .ok (.iload_n 1, 1) := by decide +kernel
theorem dX5_isPast_5 : decode cX5_isPast 5 = .ok (.iaload, 1) := by decide +kernel
theorem dX5_isPast_6 : decode cX5_isPast 6 = .ok (.iconst 1, 1) := by decide +kernel
theorem dX5_isPast_7 : decode cX5_isPast 7 = .ok (.if_icmp .ne 7, 3) := by decide +kernel
theorem dX5_isPast_10 : decode cX5_isPast 10 = .ok (.iconst 1, 1) := by decide +kernel
theorem dX5_isPast_11 : decode cX5_isPast 11 = .ok (.goto 4, 3) := by decide +kernel
theorem dX5_isPast_14 : decode cX5_isPast 14 = .ok (.iconst 0, 1) := by decide +kernel
theorem dX5_isPast_15 : decode cX5_isPast 15 = .ok (.istore_n 2, 1) := by decide +kernel
theorem dX5_isPast_16 : decode cX5_isPast 16 = .ok (.iconst 0, 1) := by decide +kernel
theorem dX5_isPast_17 : decode cX5_isPast 17 = .ok (.istore_n 3, 1) := by decide +kernel
theorem dX5_isPast_18 : decode cX5_isPast 18 = .ok (.iload_n 3, 1) := by decide +kernel
theorem dX5_isPast_19 : decode cX5_isPast 19 = .ok (.aload_n 0, 1) := by decide +kernel
theorem dX5_isPast_20 : decode cX5_isPast 20 = .ok (.getfield 58, 3) := by decide +kernel
theorem dX5_isPast_23 : decode cX5_isPast 23 = .ok (.if_icmp .ge 36, 3) := by decide +kernel
theorem dX5_isPast_26 : decode cX5_isPast 26 = .ok (.iload_n 2, 1) := by decide +kernel
theorem dX5_isPast_27 : decode cX5_isPast 27 = .ok (.ifCond .eq 24, 3) := by decide +kernel
theorem dX5_isPast_30 : decode cX5_isPast 30 = .ok (.aload_n 0, 1) := by decide +kernel
theorem dX5_isPast_31 : decode cX5_isPast 31 = .ok (.iload_n 3, 1) := by decide +kernel
theorem dX5_isPast_32 : decode cX5_isPast 32 = .ok (.invokevirtual 68, 3) := by decide +kernel
theorem dX5_isPast_35 : decode cX5_isPast 35 = .ok (.ifCond .eq 12, 3) := by decide +kernel
theorem dX5_isPast_38 : decode cX5_isPast 38 = .ok (.aload_n 0, 1) := by decide +kernel
theorem dX5_isPast_39 : decode cX5_isPast 39 = .ok (.iload_n 3, 1) := by decide +kernel
theorem dX5_isPast_40 : decode cX5_isPast 40 = .ok (.iload_n 1, 1) := by decide +kernel
theorem dX5_isPast_41 : decode cX5_isPast 41 = .ok (.invokevirtual 72, 3) := by decide +kernel
theorem dX5_isPast_44 : decode cX5_isPast 44 = .ok (.ifCond .eq 7, 3) := by decide +kernel
theorem dX5_isPast_47 : decode cX5_isPast 47 = .ok (.iconst 1, 1) := by decide +kernel
theorem dX5_isPast_48 : decode cX5_isPast 48 = .ok (.goto 4, 3) := by decide +kernel
theorem dX5_isPast_51 : decode cX5_isPast 51 = .ok (.iconst 0, 1) := by decide +kernel
theorem dX5_isPast_52 : decode cX5_isPast 52 = .ok (.istore_n 2, 1) := by decide +kernel
theorem dX5_isPast_53 : decode cX5_isPast 53 = .ok (.iinc 3 1, 3) := by decide +kernel
theorem dX5_isPast_56 : decode cX5_isPast 56 = .ok (.goto (-38), 3) := by decide +kernel
theorem dX5_isPast_59 : decode cX5_isPast 59 = .ok (.iload_n 2, 1) := by decide +kernel
theorem dX5_isPast_60 : decode cX5_isPast 60 = .ok (.ireturn, 1) := by decide +kernel
set_option maxRecDepth 20000 in
theorem ggX5_oldestNow_X5_ageOf : GoodIn wsX5_oldestNow wsX5_ageOf := goodIn_r _ [10, 11, 12, 18, 19, 20, 21, 22, 23, 24, 25, 26, 27, 28, 29, 30, 31, 32, 33, 34] (by decide +kernel) (by decide +kernel)
set_option maxRecDepth 20000 in
theorem gX5_oldestNow_X5_ageOf : GoodIn wsX5_oldestNow (wsV RX5 76 RX5 yX5_ageOf wsX5_ageOf) := goodIn_app (goodIn_of _ (by decide +kernel)) ggX5_oldestNow_X5_ageOf
set_option maxRecDepth 20000 in
theorem ggX5_oldestNow_X5_isActive : GoodIn wsX5_oldestNow wsX5_isActive := goodIn_r _ [16, 17, 18, 19, 20, 21, 22, 23, 24, 25, 26, 27, 28, 29, 30, 31, 32, 33, 34] (by decide +kernel) (by decide +kernel)
set_option maxRecDepth 20000 in
theorem gX5_oldestNow_X5_isActive : GoodIn wsX5_oldestNow (wsV RX5 68 RX5 yX5_isActive wsX5_isActive) := goodIn_app (goodIn_of _ (by decide +kernel)) ggX5_oldestNow_X5_isActive
theorem dX5_oldestNow_0 : decode cX5_oldestNow 0 = .ok (.iconst 0, 1) := by decide +kernel
theorem dX5_oldestNow_1 : decode cX5_oldestNow 1 = .ok (.istore_n 1, 1) := by decide +kernel
theorem dX5_oldestNow_2 : decode cX5_oldestNow 2 = .ok (.iconst 0, 1) := by decide +kernel
theorem dX5_oldestNow_3 : decode cX5_oldestNow 3 = .ok (.istore_n 2, 1) := by decide +kernel
theorem dX5_oldestNow_4 : decode cX5_oldestNow 4 = .ok (.iload_n 2, 1) := by decide +kernel
theorem dX5_oldestNow_5 : decode cX5_oldestNow 5 = .ok (.bipush 32, 2) := by decide +kernel
theorem dX5_oldestNow_7 : decode cX5_oldestNow 7 = .ok (.if_icmp .ge 101, 3) := by decide +kernel
theorem dX5_oldestNow_10 : decode cX5_oldestNow 10 = .ok (.aload_n 0, 1) := by decide +kernel
theorem dX5_oldestNow_11 : decode cX5_oldestNow 11 = .ok (.getfield 24, 3) := by decide +kernel
theorem dX5_oldestNow_14 : decode cX5_oldestNow 14 = .ok (.iload_n 2, 1) := by decide +kernel
theorem dX5_oldestNow_15 : decode cX5_oldestNow 15 = .ok (.baload, 1) := by decide +kernel
theorem dX5_oldestNow_16 : decode cX5_oldestNow 16 = .ok (.ifCond .eq 25, 3) := by decide +kernel
theorem dX5_oldestNow_19 : decode cX5_oldestNow 19 = .ok (.aload_n 0, 1) := by decide +kernel
theorem dX5_oldestNow_20 : decode cX5_oldestNow 20 = .ok (.getfield 37, 3) := by decide +kernel
theorem dX5_oldestNow_23 : decode cX5_oldestNow 23 = .ok (.iload_n 2, 1) := by decide +kernel
theorem dX5_oldestNow_24 : decode cX5_oldestNow 24 = .ok (.baload, 1) := by decide +kernel
theorem dX5_oldestNow_25 : decode cX5_oldestNow 25 = .ok (.ifCond .ne 16, 3) := by decide +kernel
theorem dX5_oldestNow_28 : decode cX5_oldestNow 28 = .ok (.aload_n 0, 1) := by decide +kernel
theorem dX5_oldestNow_29 : decode cX5_oldestNow 29 = .ok (.aload_n 0, 1) := by decide +kernel
theorem dX5_oldestNow_30 : decode cX5_oldestNow 30 = .ok (.getfield 34, 3) := by decide +kernel
theorem dX5_oldestNow_33 : decode cX5_oldestNow 33 = .ok (.iload_n 2, 1) := by decide +kernel
theorem dX5_oldestNow_34 : decode cX5_oldestNow 34 = .ok (.iaload, 1) := by decide +kernel
theorem dX5_oldestNow_35 : decode cX5_oldestNow 35 = .ok (.invokevirtual 76, 3) := by decide +kernel
theorem dX5_oldestNow_38 : decode cX5_oldestNow 38 = .ok (.goto 4, 3) := by decide +kernel
theorem dX5_oldestNow_41 : decode cX5_oldestNow 41 = .ok (.iconst 0, 1) := by decide +kernel
theorem dX5_oldestNow_42 : decode cX5_oldestNow 42 = .ok (.istore_n 3, 1) := by decide +kernel
theorem dX5_oldestNow_43 : decode cX5_oldestNow 43 = .ok (.aload_n 0, 1) := by decide +kernel
theorem dX5_oldestNow_44 : decode cX5_oldestNow 44 = .ok (.getfield 24, 3) := by decide +kernel
theorem dX5_oldestNow_47 : decode cX5_oldestNow 47 = .ok (.iload_n 2, 1) := by decide +kernel
theorem dX5_oldestNow_48 : decode cX5_oldestNow 48 = .ok (.baload, 1) := by decide +kernel
theorem dX5_oldestNow_49 : decode cX5_oldestNow 49 = .ok (.ifCond .eq 26, 3) := by decide +kernel
theorem dX5_oldestNow_52 : decode cX5_oldestNow 52 = .ok (.aload_n 0, 1) := by decide +kernel
theorem dX5_oldestNow_53 : decode cX5_oldestNow 53 = .ok (.getfield 40, 3) := by decide +kernel
theorem dX5_oldestNow_56 : decode cX5_oldestNow 56 = .ok (.iload_n 2, 1) := by decide +kernel
theorem dX5_oldestNow_57 : decode cX5_oldestNow 57 = .ok (.iaload, 1) := by decide +kernel
theorem dX5_oldestNow_58 : decode cX5_oldestNow 58 = .ok (.iconst (-1), 1) := by decide +kernel
theorem dX5_oldestNow_59 : decode cX5_oldestNow 59 = .ok (.if_icmp .eq 16, 3) := by decide +kernel
theorem dX5_oldestNow_62 : decode cX5_oldestNow 62 = .ok (.aload_n 0, 1) := by decide +kernel
theorem dX5_oldestNow_63 : decode cX5_oldestNow 63 = .ok (.aload_n 0, 1) := by decide +kernel
theorem dX5_oldestNow_64 : decode cX5_oldestNow 64 = .ok (.getfield 40, 3) := by decide +kernel
theorem dX5_oldestNow_67 : decode cX5_oldestNow 67 = .ok (.iload_n 2, 1) := by decide +kernel
theorem dX5_oldestNow_68 : decode cX5_oldestNow 68 = .ok (.iaload, 1) := by decide +kernel
theorem dX5_oldestNow_69 : decode cX5_oldestNow 69 = .ok (.invokevirtual 76, 3) := by decide +kernel
theorem dX5_oldestNow_72 : decode cX5_oldestNow 72 = .ok (.goto 4, 3) := by decide +kernel
theorem dX5_oldestNow_75 : decode cX5_oldestNow 75 = .ok (.iconst 0, 1) := by decide +kernel
theorem dX5_oldestNow_76 : decode cX5_oldestNow 76 = .ok (.istore 4, 2) := by decide +kernel
theorem dX5_oldestNow_78 : decode cX5_oldestNow 78 = .ok (.iload_n 3, 1) := by decide +kernel
theorem dX5_oldestNow_79 : decode cX5_oldestNow 79 = .ok (.iload_n 1, 1) := by decide +kernel
theorem dX5_oldestNow_80 : decode cX5_oldestNow 80 = .ok (.if_icmp .le 7, 3) := by decide +kernel
theorem dX5_oldestNow_83 : decode cX5_oldestNow 83 = .ok (.iload_n 3, 1) := by decide +kernel
theorem dX5_oldestNow_84 : decode cX5_oldestNow 84 = .ok (.goto 4, 3) := by decide +kernel
theorem dX5_oldestNow_87 : decode cX5_oldestNow 87 = .ok (.iload_n 1, 1) := by decide +kernel
theorem dX5_oldestNow_88 : decode cX5_oldestNow 88 = .ok (.istore_n 1, 1) := by decide +kernel
theorem dX5_oldestNow_89 : decode cX5_oldestNow 89 = .ok (.iload 4, 2) := by decide +kernel
theorem dX5_oldestNow_91 : decode cX5_oldestNow 91 = .ok (.iload_n 1, 1) := by decide +kernel
theorem dX5_oldestNow_92 : decode cX5_oldestNow 92 = .ok (.if_icmp .le 8, 3) := by decide +kernel
theorem dX5_oldestNow_95 : decode cX5_oldestNow 95 = .ok (.iload 4, 2) := by decide +kernel
theorem dX5_oldestNow_97 : decode cX5_oldestNow 97 = .ok (.goto 4, 3) := by decide +kernel
theorem dX5_oldestNow_100 : decode cX5_oldestNow 100 = .ok (.iload_n 1, 1) := by decide +kernel
theorem dX5_oldestNow_101 : decode cX5_oldestNow 101 = .ok (.istore_n 1, 1) := by decide +kernel
theorem dX5_oldestNow_102 : decode cX5_oldestNow 102 = .ok (.iinc 2 1, 3) := by decide +kernel
theorem dX5_oldestNow_105 : decode cX5_oldestNow 105 = .ok (.goto (-101), 3) := by decide +kernel
theorem dX5_oldestNow_108 : decode cX5_oldestNow 108 = .ok (.iconst 0, 1) := by decide +kernel
theorem dX5_oldestNow_109 : decode cX5_oldestNow 109 = .ok (.istore_n 2, 1) := by decide +kernel
theorem dX5_oldestNow_110 : decode cX5_oldestNow 110 = .ok (.iload_n 2, 1) := by decide +kernel
theorem dX5_oldestNow_111 : decode cX5_oldestNow 111 = .ok (.aload_n 0, 1) := by decide +kernel
theorem dX5_oldestNow_112 : decode cX5_oldestNow 112 = .ok (.getfield 58, 3) := by decide +kernel
theorem dX5_oldestNow_115 : decode cX5_oldestNow 115 = .ok (.if_icmp .ge 36, 3) := by decide +kernel
theorem dX5_oldestNow_118 : decode cX5_oldestNow 118 = .ok (.aload_n 0, 1) := by decide +kernel
theorem dX5_oldestNow_119 : decode cX5_oldestNow 119 = .ok (.iload_n 2, 1) := by decide +kernel
theorem dX5_oldestNow_120 : decode cX5_oldestNow 120 = .ok (.invokevirtual 68, 3) := by decide +kernel
theorem dX5_oldestNow_123 : decode cX5_oldestNow 123 = .ok (.ifCond .eq 20, 3) := by decide +kernel
theorem dX5_oldestNow_126 : decode cX5_oldestNow 126 = .ok (.aload_n 0, 1) := by decide +kernel
theorem dX5_oldestNow_127 : decode cX5_oldestNow 127 = .ok (.iload_n 2, 1) := by decide +kernel
theorem dX5_oldestNow_128 : decode cX5_oldestNow 128 = .ok (.invokevirtual 76, 3) := by decide +kernel
theorem dX5_oldestNow_131 : decode cX5_oldestNow 131 = .ok (.iload_n 1, 1) := by decide +kernel
theorem dX5_oldestNow_132 : decode cX5_oldestNow 132 = .ok (.if_icmp .le 11, 3) := by decide +kernel
theorem dX5_oldestNow_135 : decode cX5_oldestNow 135 = .ok (.aload_n 0, 1) := by decide +kernel
theorem dX5_oldestNow_136 : decode cX5_oldestNow 136 = .ok (.iload_n 2, 1) := by decide +kernel
theorem dX5_oldestNow_137 : decode cX5_oldestNow 137 = .ok (.invokevirtual 76, 3) := by decide +kernel
theorem dX5_oldestNow_140 : decode cX5_oldestNow 140 = .ok (.goto 4, 3) := by decide +kernel
theorem dX5_oldestNow_143 : decode cX5_oldestNow 143 = .ok (.iload_n 1, 1) := by decide +kernel
theorem dX5_oldestNow_144 : decode cX5_oldestNow 144 = .ok (.istore_n 1, 1) := by decide +kernel
theorem dX5_oldestNow_145 : decode cX5_oldestNow 145 = .ok (.iinc 2 1, 3) := by decide +kernel
theorem dX5_oldestNow_148 : decode cX5_oldestNow 148 = .ok (.goto (-38), 3) := by decide +kernel
theorem dX5_oldestNow_151 : decode cX5_oldestNow 151 = .ok (.iload_n 1, 1) := by decide +kernel
theorem dX5_oldestNow_152 : decode cX5_oldestNow 152 = .ok (.ireturn, 1) := by decide +kernel
set_option maxRecDepth 20000 in
theorem ggX5_begin_X5_oldestNow : GoodIn wsX5_begin wsX5_oldestNow := goodIn_r _ [10, 11, 12, 13, 14, 1, 15, 16, 17, 9, 18, 5, 4, 19, 20, 21, 22, 2, 28, 29, 30, 31, 32, 33, 34, 35, 36, 37, 38, 39, 40, 41, 42, 43, 44] (by decide +kernel) (by decide +kernel)
set_option maxRecDepth 20000 in
theorem gX5_begin_X5_oldestNow : GoodIn wsX5_begin (wsV RX5 80 RX5 yX5_oldestNow wsX5_oldestNow) := goodIn_app (goodIn_of _ (by decide +kernel)) ggX5_begin_X5_oldestNow
set_option maxRecDepth 20000 in
theorem ggX5_begin_X5_isFine : GoodIn wsX5_begin wsX5_isFine := goodIn_r _ [26, 27, 28, 29, 30, 31, 32, 33, 34, 35, 36, 37, 38, 39, 40, 41, 42, 43, 44] (by decide +kernel) (by decide +kernel)
set_option maxRecDepth 20000 in
theorem gX5_begin_X5_isFine : GoodIn wsX5_begin (wsV RX5 84 RX5 yX5_isFine wsX5_isFine) := goodIn_app (goodIn_of _ (by decide +kernel)) ggX5_begin_X5_isFine
theorem dX5_begin_0 : decode cX5_begin 0 = .ok (.aload_n 0, 1) := by decide +kernel
theorem dX5_begin_1 : decode cX5_begin 1 = .ok (.aload_n 0, 1) := by decide +kernel
theorem dX5_begin_2 : decode cX5_begin 2 = .ok (.getfield 58, 3) := by decide +kernel
theorem dX5_begin_5 : decode cX5_begin 5 = .ok (.bipush 60, 2) := by decide +kernel
theorem dX5_begin_7 : decode cX5_begin 7 = .ok (.if_icmp .eq 12, 3) := by decide +kernel
theorem dX5_begin_10 : decode cX5_begin 10 = .ok (.aload_n 0, 1) := by decide +kernel
theorem dX5_begin_11 : decode cX5_begin 11 = .ok (.invokevirtual 80, 3) := by decide +kernel
theorem dX5_begin_14 : decode cX5_begin 14 = .ok (.bipush 28, 2) := by decide +kernel
theorem dX5_begin_16 : decode cX5_begin 16 = .ok (.if_icmp .lt 7, 3) := by decide +kernel
theorem dX5_begin_19 : decode cX5_begin 19 = .ok (.iconst 1, 1) := by decide +kernel
theorem dX5_begin_20 : decode cX5_begin 20 = .ok (.goto 4, 3) := by decide +kernel
theorem dX5_begin_23 : decode cX5_begin 23 = .ok (.iconst 0, 1) := by decide +kernel
theorem dX5_begin_24 : decode cX5_begin 24 = .ok (.invokevirtual 84, 3) := by decide +kernel
theorem dX5_begin_27 : decode cX5_begin 27 = .ok (.ifCond .ne 5, 3) := by decide +kernel
theorem dX5_begin_30 : decode cX5_begin 30 = .ok (.iconst 0, 1) := by decide +kernel
theorem dX5_begin_31 : decode cX5_begin 31 = .ok (.ireturn, 1) := by decide +kernel
theorem dX5_begin_32 : decode cX5_begin 32 = .ok (.lconst 0, 1) := by decide +kernel
theorem dX5_begin_33 : decode cX5_begin 33 = .ok (.lstore_n 1, 1) := by decide +kernel
theorem dX5_begin_34 : decode cX5_begin 34 = .ok (.iconst 0, 1) := by decide +kernel
theorem dX5_begin_35 : decode cX5_begin 35 = .ok (.istore_n 3, 1) := by decide +kernel
theorem dX5_begin_36 : decode cX5_begin 36 = .ok (.iload_n 3, 1) := by decide +kernel
theorem dX5_begin_37 : decode cX5_begin 37 = .ok (.aload_n 0, 1) := by decide +kernel
theorem dX5_begin_38 : decode cX5_begin 38 = .ok (.getfield 58, 3) := by decide +kernel
theorem dX5_begin_41 : decode cX5_begin 41 = .ok (.if_icmp .ge 29, 3) := by decide +kernel
theorem dX5_begin_44 : decode cX5_begin 44 = .ok (.lload_n 1, 1) := by decide +kernel
theorem dX5_begin_45 : decode cX5_begin 45 = .ok (.aload_n 0, 1) := by decide +kernel
theorem dX5_begin_46 : decode cX5_begin 46 = .ok (.getfield 17, 3) := by decide +kernel
theorem dX5_begin_49 : decode cX5_begin 49 = .ok (.iload_n 3, 1) := by decide +kernel
theorem dX5_begin_50 : decode cX5_begin 50 = .ok (.iaload, 1) := by decide +kernel
theorem dX5_begin_51 : decode cX5_begin 51 = .ok (.iconst 1, 1) := by decide +kernel
theorem dX5_begin_52 : decode cX5_begin 52 = .ok (.if_icmp .ne 9, 3) := by decide +kernel
theorem dX5_begin_55 : decode cX5_begin 55 = .ok (.lconst 1, 1) := by decide +kernel
theorem dX5_begin_56 : decode cX5_begin 56 = .ok (.iload_n 3, 1) := by decide +kernel
theorem dX5_begin_57 : decode cX5_begin 57 = .ok (.lshl, 1) := by decide +kernel
theorem dX5_begin_58 : decode cX5_begin 58 = .ok (.goto 4, 3) := by decide +kernel
theorem dX5_begin_61 : decode cX5_begin 61 = .ok (.lconst 0, 1) := by decide +kernel
theorem dX5_begin_62 : decode cX5_begin 62 = .ok (.lor, 1) := by decide +kernel
theorem dX5_begin_63 : decode cX5_begin 63 = .ok (.lstore_n 1, 1) := by decide +kernel
theorem dX5_begin_64 : decode cX5_begin 64 = .ok (.iinc 3 1, 3) := by decide +kernel
theorem dX5_begin_67 : decode cX5_begin 67 = .ok (.goto (-31), 3) := by decide +kernel
theorem dX5_begin_70 : decode cX5_begin 70 = .ok (.aload_n 0, 1) := by decide +kernel
theorem dX5_begin_71 : decode cX5_begin 71 = .ok (.getfield 20, 3) := by decide +kernel
theorem dX5_begin_74 : decode cX5_begin 74 = .ok (.aload_n 0, 1) := by decide +kernel
theorem dX5_begin_75 : decode cX5_begin 75 = .ok (.getfield 58, 3) := by decide +kernel
theorem dX5_begin_78 : decode cX5_begin 78 = .ok (.lload_n 1, 1) := by decide +kernel
theorem dX5_begin_79 : decode cX5_begin 79 = .ok (.lastore, 1) := by decide +kernel
theorem dX5_begin_80 : decode cX5_begin 80 = .ok (.aload_n 0, 1) := by decide +kernel
theorem dX5_begin_81 : decode cX5_begin 81 = .ok (.getfield 17, 3) := by decide +kernel
theorem dX5_begin_84 : decode cX5_begin 84 = .ok (.aload_n 0, 1) := by decide +kernel
theorem dX5_begin_85 : decode cX5_begin 85 = .ok (.getfield 58, 3) := by decide +kernel
theorem dX5_begin_88 : decode cX5_begin 88 = .ok (.iconst 0, 1) := by decide +kernel
theorem dX5_begin_89 : decode cX5_begin 89 = .ok (.iastore, 1) := by decide +kernel
theorem dX5_begin_90 : decode cX5_begin 90 = .ok (.aload_n 0, 1) := by decide +kernel
theorem dX5_begin_91 : decode cX5_begin 91 = .ok (.getfield 13, 3) := by decide +kernel
theorem dX5_begin_94 : decode cX5_begin 94 = .ok (.aload_n 0, 1) := by decide +kernel
theorem dX5_begin_95 : decode cX5_begin 95 = .ok (.getfield 58, 3) := by decide +kernel
theorem dX5_begin_98 : decode cX5_begin 98 = .ok (.aload_n 0, 1) := by decide +kernel
theorem dX5_begin_99 : decode cX5_begin 99 = .ok (.getfield 65, 3) := by decide +kernel
theorem dX5_begin_102 : decode cX5_begin 102 = .ok (.iastore, 1) := by decide +kernel
theorem dX5_begin_103 : decode cX5_begin 103 = .ok (.aload_n 0, 1) := by decide +kernel
theorem dX5_begin_104 : decode cX5_begin 104 = .ok (.aload_n 0, 1) := by decide +kernel
theorem dX5_begin_105 : decode cX5_begin 105 = .ok (.getfield 65, 3) := by decide +kernel
theorem dX5_begin_108 : decode cX5_begin 108 = .ok (.iconst 1, 1) := by decide +kernel
theorem dX5_begin_109 : decode cX5_begin 109 = .ok (.iadd, 1) := by decide +kernel
theorem dX5_begin_110 : decode cX5_begin 110 = .ok (.bipush 64, 2) := by decide +kernel
theorem dX5_begin_112 : decode cX5_begin 112 = .ok (.irem, 1) := by decide +kernel
theorem dX5_begin_113 : decode cX5_begin 113 = .ok (.putfield 65, 3) := by decide +kernel
theorem dX5_begin_116 : decode cX5_begin 116 = .ok (.aload_n 0, 1) := by decide +kernel
theorem dX5_begin_117 : decode cX5_begin 117 = .ok (.dup, 1) := by decide +kernel
theorem dX5_begin_118 : decode cX5_begin 118 = .ok (.getfield 58, 3) := by decide +kernel
theorem dX5_begin_121 : decode cX5_begin 121 = .ok (.iconst 1, 1) := by decide +kernel
theorem dX5_begin_122 : decode cX5_begin 122 = .ok (.iadd, 1) := by decide +kernel
theorem dX5_begin_123 : decode cX5_begin 123 = .ok (.putfield 58, 3) := by decide +kernel
theorem dX5_begin_126 : decode cX5_begin 126 = .ok (.aload_n 0, 1) := by decide +kernel
theorem dX5_begin_127 : decode cX5_begin 127 = .ok (.getfield 58, 3) := by decide +kernel
theorem dX5_begin_130 : decode cX5_begin 130 = .ok (.iconst 1, 1) := by decide +kernel
theorem dX5_begin_131 : decode cX5_begin 131 = .ok (.isub, 1) := by decide +kernel
theorem dX5_begin_132 : decode cX5_begin 132 = .ok (.ireturn, 1) := by decide +kernel
set_option maxRecDepth 20000 in
theorem ggX5_end_X5_isTransaction : GoodIn wsX5_end wsX5_isTransaction := goodIn_r _ [9, 4, 10, 11, 8, 12, 22, 23, 24, 25, 26, 27, 28, 29, 30, 31, 32, 33, 34, 35, 36, 37, 38] (by decide +kernel) (by decide +kernel)
set_option maxRecDepth 20000 in
theorem gX5_end_X5_isTransaction : GoodIn wsX5_end (wsV RX5 87 RX5 yX5_isTransaction wsX5_isTransaction) := goodIn_app (goodIn_of _ (by decide +kernel)) ggX5_end_X5_isTransaction
set_option maxRecDepth 20000 in
theorem ggX5_end_X5_isActive : GoodIn wsX5_end wsX5_isActive := goodIn_r _ [16, 1, 22, 23, 24, 25, 26, 27, 28, 29, 30, 31, 32, 33, 34, 35, 36, 37, 38] (by decide +kernel) (by decide +kernel)
set_option maxRecDepth 20000 in
theorem gX5_end_X5_isActive : GoodIn wsX5_end (wsV RX5 68 RX5 yX5_isActive wsX5_isActive) := goodIn_app (goodIn_of _ (by decide +kernel)) ggX5_end_X5_isActive
set_option maxRecDepth 20000 in
theorem ggX5_end_X5_isFine : GoodIn wsX5_end wsX5_isFine := goodIn_r _ [20, 21, 22, 23, 24, 25, 26, 27, 28, 29, 30, 31, 32, 33, 34, 35, 36, 37, 38] (by decide +kernel) (by decide +kernel)
set_option maxRecDepth 20000 in
theorem gX5_end_X5_isFine : GoodIn wsX5_end (wsV RX5 84 RX5 yX5_isFine wsX5_isFine) := goodIn_app (goodIn_of _ (by decide +kernel)) ggX5_end_X5_isFine
theorem dX5_end_0 : decode cX5_end 0 = .ok (.aload_n 0, 1) := by decide +kernel
theorem dX5_end_1 : decode cX5_end 1 = .ok (.iload_n 1, 1) := by decide +kernel
theorem dX5_end_2 : decode cX5_end 2 = .ok (.invokevirtual 87, 3) := by decide +kernel
theorem dX5_end_5 : decode cX5_end 5 = .ok (.istore_n 3, 1) := by decide +kernel
theorem dX5_end_6 : decode cX5_end 6 = .ok (.aload_n 0, 1) := by decide +kernel
theorem dX5_end_7 : decode cX5_end 7 = .ok (.iload_n 3, 1) := by decide +kernel
theorem dX5_end_8 : decode cX5_end 8 = .ok (.ifCond .ne 7, 3) := by decide +kernel
theorem dX5_end_11 : decode cX5_end 11 = .ok (.iconst 1, 1) := by decide +kernel
theorem dX5_end_12 : decode cX5_end 12 = .ok (.goto 16, 3) := by decide +kernel
theorem dX5_end_15 : decode cX5_end 15 = .ok (.aload_n 0, 1) := by decide +kernel
theorem dX5_end_16 : decode cX5_end 16 = .ok (.iload_n 1, 1) := by decide +kernel
theorem dX5_end_17 : decode cX5_end 17 = .ok (.invokevirtual 68, 3) := by decide +kernel
theorem dX5_end_20 : decode cX5_end 20 = .ok (.ifCond .ne 7, 3) := by decide +kernel
theorem dX5_end_23 : decode cX5_end 23 = .ok (.iconst 2, 1) := by decide +kernel
theorem dX5_end_24 : decode cX5_end 24 = .ok (.goto 4, 3) := by decide +kernel
theorem dX5_end_27 : decode cX5_end 27 = .ok (.iconst 0, 1) := by decide +kernel
theorem dX5_end_28 : decode cX5_end 28 = .ok (.invokevirtual 84, 3) := by decide +kernel
theorem dX5_end_31 : decode cX5_end 31 = .ok (.ifCond .ne 5, 3) := by decide +kernel
theorem dX5_end_34 : decode cX5_end 34 = .ok (.iconst 0, 1) := by decide +kernel
theorem dX5_end_35 : decode cX5_end 35 = .ok (.ireturn, 1) := by decide +kernel
theorem dX5_end_36 : decode cX5_end 36 = .ok (.aload_n 0, 1) := by decide +kernel
theorem dX5_end_37 : decode cX5_end 37 = .ok (.getfield 17, 3) := by decide +kernel
theorem dX5_end_40 : decode cX5_end 40 = .ok (.iload_n 1, 1) := by decide +kernel
theorem dX5_end_41 : decode cX5_end 41 = .ok (.iload_n 2, 1) := by decide +kernel
theorem dX5_end_42 : decode cX5_end 42 = .ok (.ifCond .eq 7, 3) := by decide +kernel
theorem dX5_end_45 : decode cX5_end 45 = .ok (.iconst 1, 1) := by decide +kernel
theorem dX5_end_46 : decode cX5_end 46 = .ok (.goto 4, 3) := by decide +kernel
theorem dX5_end_49 : decode cX5_end 49 = .ok (.iconst 2, 1) := by decide +kernel
theorem dX5_end_50 : decode cX5_end 50 = .ok (.iastore, 1) := by decide +kernel
theorem dX5_end_51 : decode cX5_end 51 = .ok (.iconst 0, 1) := by decide +kernel
theorem dX5_end_52 : decode cX5_end 52 = .ok (.istore 4, 2) := by decide +kernel
theorem dX5_end_54 : decode cX5_end 54 = .ok (.iload 4, 2) := by decide +kernel
theorem dX5_end_56 : decode cX5_end 56 = .ok (.bipush 32, 2) := by decide +kernel
theorem dX5_end_58 : decode cX5_end 58 = .ok (.if_icmp .ge 52, 3) := by decide +kernel
theorem dX5_end_61 : decode cX5_end 61 = .ok (.aload_n 0, 1) := by decide +kernel
theorem dX5_end_62 : decode cX5_end 62 = .ok (.getfield 40, 3) := by decide +kernel
theorem dX5_end_65 : decode cX5_end 65 = .ok (.iload 4, 2) := by decide +kernel
theorem dX5_end_67 : decode cX5_end 67 = .ok (.iload_n 2, 1) := by decide +kernel
theorem dX5_end_68 : decode cX5_end 68 = .ok (.ifCond .ne 28, 3) := by decide +kernel
theorem dX5_end_71 : decode cX5_end 71 = .ok (.aload_n 0, 1) := by decide +kernel
theorem dX5_end_72 : decode cX5_end 72 = .ok (.getfield 24, 3) := by decide +kernel
theorem dX5_end_75 : decode cX5_end 75 = .ok (.iload 4, 2) := by decide +kernel
theorem dX5_end_77 : decode cX5_end 77 = .ok (.baload, 1) := by decide +kernel
theorem dX5_end_78 : decode cX5_end 78 = .ok (.ifCond .eq 18, 3) := by decide +kernel
theorem dX5_end_81 : decode cX5_end 81 = .ok (.aload_n 0, 1) := by decide +kernel
theorem dX5_end_82 : decode cX5_end 82 = .ok (.getfield 40, 3) := by decide +kernel
theorem dX5_end_85 : decode cX5_end 85 = .ok (.iload 4, 2) := by decide +kernel
theorem dX5_end_87 : decode cX5_end 87 = .ok (.iaload, 1) := by decide +kernel
theorem dX5_end_88 : decode cX5_end 88 = .ok (.iload_n 1, 1) := by decide +kernel
theorem dX5_end_89 : decode cX5_end 89 = .ok (.if_icmp .ne 7, 3) := by decide +kernel
theorem dX5_end_92 : decode cX5_end 92 = .ok (.iconst (-1), 1) := by decide +kernel
theorem dX5_end_93 : decode cX5_end 93 = .ok (.goto 10, 3) := by decide +kernel
theorem dX5_end_96 : decode cX5_end 96 = .ok (.aload_n 0, 1) := by decide +kernel
theorem dX5_end_97 : decode cX5_end 97 = .ok (.getfield 40, 3) := by decide +kernel
theorem dX5_end_100 : decode cX5_end 100 = .ok (.iload 4, 2) := by decide +kernel
theorem dX5_end_102 : decode cX5_end 102 = .ok (.iaload, 1) := by decide +kernel
theorem dX5_end_103 : decode cX5_end 103 = .ok (.iastore, 1) := by decide +kernel
theorem dX5_end_104 : decode cX5_end 104 = .ok (.iinc 4 1, 3) := by decide +kernel
theorem dX5_end_107 : decode cX5_end 107 = .ok (.goto (-53), 3) := by decide +kernel
theorem dX5_end_110 : decode cX5_end 110 = .ok (.iconst 0, 1) := by decide +kernel
theorem dX5_end_111 : decode cX5_end 111 = .ok (.istore 4, 2) := by decide +kernel
theorem dX5_end_113 : decode cX5_end 113 = .ok (.iconst 0, 1) := by decide +kernel
theorem dX5_end_114 : decode cX5_end 114 = .ok (.istore 5, 2) := by decide +kernel
theorem dX5_end_116 : decode cX5_end 116 = .ok (.iload 5, 2) := by decide +kernel
theorem dX5_end_118 : decode cX5_end 118 = .ok (.aload_n 0, 1) := by decide +kernel
theorem dX5_end_119 : decode cX5_end 119 = .ok (.getfield 58, 3) := by decide +kernel
theorem dX5_end_122 : decode cX5_end 122 = .ok (.if_icmp .ge 28, 3) := by decide +kernel
theorem dX5_end_125 : decode cX5_end 125 = .ok (.iload 4, 2) := by decide +kernel
theorem dX5_end_127 : decode cX5_end 127 = .ok (.aload_n 0, 1) := by decide +kernel
theorem dX5_end_128 : decode cX5_end 128 = .ok (.iload 5, 2) := by decide +kernel
theorem dX5_end_130 : decode cX5_end 130 = .ok (.invokevirtual 68, 3) := by decide +kernel
theorem dX5_end_133 : decode cX5_end 133 = .ok (.ifCond .eq 7, 3) := by decide +kernel
theorem dX5_end_136 : decode cX5_end 136 = .ok (.iconst 1, 1) := by decide +kernel
theorem dX5_end_137 : decode cX5_end 137 = .ok (.goto 4, 3) := by decide +kernel
theorem dX5_end_140 : decode cX5_end 140 = .ok (.iconst 0, 1) := by decide +kernel
theorem dX5_end_141 : decode cX5_end 141 = .ok (.iadd, 1) := by decide +kernel
theorem dX5_end_142 : decode cX5_end 142 = .ok (.istore 4, 2) := by decide +kernel
theorem dX5_end_144 : decode cX5_end 144 = .ok (.iinc 5 1, 3) := by decide +kernel
theorem dX5_end_147 : decode cX5_end 147 = .ok (.goto (-31), 3) := by decide +kernel
theorem dX5_end_150 : decode cX5_end 150 = .ok (.iload 4, 2) := by decide +kernel
theorem dX5_end_152 : decode cX5_end 152 = .ok (.ireturn, 1) := by decide +kernel
set_option maxRecDepth 20000 in
theorem ggX5_jump_X5_isIn : GoodIn wsX5_jump wsX5_isIn := goodIn_r _ [5] (by decide +kernel) (by decide +kernel)
set_option maxRecDepth 20000 in
theorem gX5_jump_X5_isIn : GoodIn wsX5_jump (va_wsS RX5 61 yX5_isIn wsX5_isIn) := goodIn_app (goodIn_of _ (by decide +kernel)) ggX5_jump_X5_isIn
set_option maxRecDepth 20000 in
theorem ggX5_jump_X5_oldestNow : GoodIn wsX5_jump wsX5_oldestNow := goodIn_r _ [9, 10, 11, 12, 13, 14, 15, 16, 17, 4, 18, 1, 19, 20, 21, 22, 23, 24, 30, 31, 32, 33, 34, 35, 36, 37, 38, 39, 40, 41, 42, 43, 44, 45, 46] (by decide +kernel) (by decide +kernel)
set_option maxRecDepth 20000 in
theorem gX5_jump_X5_oldestNow : GoodIn wsX5_jump (wsV RX5 80 RX5 yX5_oldestNow wsX5_oldestNow) := goodIn_app (goodIn_of _ (by decide +kernel)) ggX5_jump_X5_oldestNow
set_option maxRecDepth 20000 in
theorem ggX5_jump_X5_isFine : GoodIn wsX5_jump wsX5_isFine := goodIn_r _ [28, 29, 30, 31, 32, 33, 34, 35, 36, 37, 38, 39, 40, 41, 42, 43, 44, 45, 46] (by decide +kernel) (by decide +kernel)
set_option maxRecDepth 20000 in
theorem gX5_jump_X5_isFine : GoodIn wsX5_jump (wsV RX5 84 RX5 yX5_isFine wsX5_isFine) := goodIn_app (goodIn_of _ (by decide +kernel)) ggX5_jump_X5_isFine
theorem dX5_jump_0 : decode cX5_jump 0 = .ok (.aload_n 0, 1) := by decide +kernel
theorem dX5_jump_1 : decode cX5_jump 1 = .ok (.iload_n 1, 1) := by decide +kernel
theorem dX5_jump_2 : decode cX5_jump 2 = .ok (.iconst 1, 1) := by decide +kernel
theorem dX5_jump_3 : decode cX5_jump 3 = .ok (.bipush 20, 2) := by decide +kernel
theorem dX5_jump_5 : decode cX5_jump 5 = .ok (.invokestatic 61, 3) := by decide +kernel
theorem dX5_jump_8 : decode cX5_jump 8 = .ok (.ifCond .ne 7, 3) := by decide +kernel
theorem dX5_jump_11 : decode cX5_jump 11 = .ok (.iconst 1, 1) := by decide +kernel
theorem dX5_jump_12 : decode cX5_jump 12 = .ok (.goto 26, 3) := by decide +kernel
theorem dX5_jump_15 : decode cX5_jump 15 = .ok (.aload_n 0, 1) := by decide +kernel
theorem dX5_jump_16 : decode cX5_jump 16 = .ok (.invokevirtual 80, 3) := by decide +kernel
theorem dX5_jump_19 : decode cX5_jump 19 = .ok (.ifCond .le 18, 3) := by decide +kernel
theorem dX5_jump_22 : decode cX5_jump 22 = .ok (.aload_n 0, 1) := by decide +kernel
theorem dX5_jump_23 : decode cX5_jump 23 = .ok (.invokevirtual 80, 3) := by decide +kernel
theorem dX5_jump_26 : decode cX5_jump 26 = .ok (.iload_n 1, 1) := by decide +kernel
theorem dX5_jump_27 : decode cX5_jump 27 = .ok (.iadd, 1) := by decide +kernel
theorem dX5_jump_28 : decode cX5_jump 28 = .ok (.bipush 32, 2) := by decide +kernel
theorem dX5_jump_30 : decode cX5_jump 30 = .ok (.if_icmp .lt 7, 3) := by decide +kernel
theorem dX5_jump_33 : decode cX5_jump 33 = .ok (.iconst 2, 1) := by decide +kernel
theorem dX5_jump_34 : decode cX5_jump 34 = .ok (.goto 4, 3) := by decide +kernel
theorem dX5_jump_37 : decode cX5_jump 37 = .ok (.iconst 0, 1) := by decide +kernel
theorem dX5_jump_38 : decode cX5_jump 38 = .ok (.invokevirtual 84, 3) := by decide +kernel
theorem dX5_jump_41 : decode cX5_jump 41 = .ok (.ifCond .ne 5, 3) := by decide +kernel
theorem dX5_jump_44 : decode cX5_jump 44 = .ok (.iconst 0, 1) := by decide +kernel
theorem dX5_jump_45 : decode cX5_jump 45 = .ok (.ireturn, 1) := by decide +kernel
theorem dX5_jump_46 : decode cX5_jump 46 = .ok (.aload_n 0, 1) := by decide +kernel
theorem dX5_jump_47 : decode cX5_jump 47 = .ok (.aload_n 0, 1) := by decide +kernel
theorem dX5_jump_48 : decode cX5_jump 48 = .ok (.getfield 65, 3) := by decide +kernel
theorem dX5_jump_51 : decode cX5_jump 51 = .ok (.iload_n 1, 1) := by decide +kernel
theorem dX5_jump_52 : decode cX5_jump 52 = .ok (.iadd, 1) := by decide +kernel
theorem dX5_jump_53 : decode cX5_jump 53 = .ok (.bipush 64, 2) := by decide +kernel
theorem dX5_jump_55 : decode cX5_jump 55 = .ok (.irem, 1) := by decide +kernel
theorem dX5_jump_56 : decode cX5_jump 56 = .ok (.putfield 65, 3) := by decide +kernel
theorem dX5_jump_59 : decode cX5_jump 59 = .ok (.aload_n 0, 1) := by decide +kernel
theorem dX5_jump_60 : decode cX5_jump 60 = .ok (.getfield 65, 3) := by decide +kernel
theorem dX5_jump_63 : decode cX5_jump 63 = .ok (.ireturn, 1) := by decide +kernel
set_option maxRecDepth 20000 in
theorem ggX5_stamp_X5_isTransaction : GoodIn wsX5_stamp wsX5_isTransaction := goodIn_r _ [6, 7, 8, 9, 5, 10, 16, 17, 18, 19, 20, 21, 22, 23, 24, 25, 26, 27, 28, 29, 30, 31, 32] (by decide +kernel) (by decide +kernel)
set_option maxRecDepth 20000 in
theorem gX5_stamp_X5_isTransaction : GoodIn wsX5_stamp (wsV RX5 87 RX5 yX5_isTransaction wsX5_isTransaction) := goodIn_app (goodIn_of _ (by decide +kernel)) ggX5_stamp_X5_isTransaction
set_option maxRecDepth 20000 in
theorem ggX5_stamp_X5_isFine : GoodIn wsX5_stamp wsX5_isFine := goodIn_r _ [14, 15, 16, 17, 18, 19, 20, 21, 22, 23, 24, 25, 26, 27, 28, 29, 30, 31, 32] (by decide +kernel) (by decide +kernel)
set_option maxRecDepth 20000 in
theorem gX5_stamp_X5_isFine : GoodIn wsX5_stamp (wsV RX5 84 RX5 yX5_isFine wsX5_isFine) := goodIn_app (goodIn_of _ (by decide +kernel)) ggX5_stamp_X5_isFine
theorem dX5_stamp_0 : decode cX5_stamp 0 = .ok (.aload_n 0, 1) := by decide +kernel
theorem dX5_stamp_1 : decode cX5_stamp 1 = .ok (.aload_n 0, 1) := by decide +kernel
theorem dX5_stamp_2 : decode cX5_stamp 2 = .ok (.iload_n 1, 1) := by decide +kernel
theorem dX5_stamp_3 : decode cX5_stamp 3 = .ok (.invokevirtual 87, 3) := by decide +kernel
theorem dX5_stamp_6 : decode cX5_stamp 6 = .ok (.ifCond .eq 7, 3) := by decide +kernel
theorem dX5_stamp_9 : decode cX5_stamp 9 = .ok (.iconst 0, 1) := by decide +kernel
theorem dX5_stamp_10 : decode cX5_stamp 10 = .ok (.goto 4, 3) := by decide +kernel
theorem dX5_stamp_13 : decode cX5_stamp 13 = .ok (.iconst 1, 1) := by decide +kernel
theorem dX5_stamp_14 : decode cX5_stamp 14 = .ok (.invokevirtual 84, 3) := by decide +kernel
theorem dX5_stamp_17 : decode cX5_stamp 17 = .ok (.ifCond .eq 12, 3) := by decide +kernel
theorem dX5_stamp_20 : decode cX5_stamp 20 = .ok (.aload_n 0, 1) := by decide +kernel
theorem dX5_stamp_21 : decode cX5_stamp 21 = .ok (.getfield 13, 3) := by decide +kernel
theorem dX5_stamp_24 : decode cX5_stamp 24 = .ok (.iload_n 1, 1) := by decide +kernel
theorem dX5_stamp_25 : decode cX5_stamp 25 = .ok (.iaload, 1) := by decide +kernel
theorem dX5_stamp_26 : decode cX5_stamp 26 = .ok (.goto 4, 3) := by decide +kernel
theorem dX5_stamp_29 : decode cX5_stamp 29 = .ok (.iconst 0, 1) := by decide +kernel
theorem dX5_stamp_30 : decode cX5_stamp 30 = .ok (.ireturn, 1) := by decide +kernel
set_option maxRecDepth 20000 in
theorem ggX5_isBefore_X5_isIn : GoodIn wsX5_isBefore wsX5_isIn := goodIn_r _ [4] (by decide +kernel) (by decide +kernel)
set_option maxRecDepth 20000 in
theorem gX5_isBefore_X5_isIn : GoodIn wsX5_isBefore (va_wsS RX5 61 yX5_isIn wsX5_isIn) := goodIn_app (goodIn_of _ (by decide +kernel)) ggX5_isBefore_X5_isIn
set_option maxRecDepth 20000 in
theorem ggX5_isBefore_X5_isFine : GoodIn wsX5_isBefore wsX5_isFine := goodIn_r _ [8, 9, 10, 11, 12, 13, 14, 15, 16, 17, 18, 19, 20, 21, 22, 23, 24, 25, 26] (by decide +kernel) (by decide +kernel)
set_option maxRecDepth 20000 in
theorem gX5_isBefore_X5_isFine : GoodIn wsX5_isBefore (wsV RX5 84 RX5 yX5_isFine wsX5_isFine) := goodIn_app (goodIn_of _ (by decide +kernel)) ggX5_isBefore_X5_isFine
theorem dX5_isBefore_0 : decode cX5_isBefore 0 = .ok (.iload_n 1, 1) := by decide +kernel
theorem dX5_isBefore_1 : decode cX5_isBefore 1 = .ok (.iconst 0, 1) := by decide +kernel
theorem dX5_isBefore_2 : decode cX5_isBefore 2 = .ok (.bipush 63, 2) := by decide +kernel
theorem dX5_isBefore_4 : decode cX5_isBefore 4 = .ok (.invokestatic 61, 3) := by decide +kernel
theorem dX5_isBefore_7 : decode cX5_isBefore 7 = .ok (.ifCond .eq 17, 3) := by decide +kernel
theorem dX5_isBefore_10 : decode cX5_isBefore 10 = .ok (.iload_n 2, 1) := by decide +kernel
theorem dX5_isBefore_11 : decode cX5_isBefore 11 = .ok (.iconst 0, 1) := by decide +kernel
theorem dX5_isBefore_12 : decode cX5_isBefore 12 = .ok (.bipush 63, 2) := by decide +kernel
theorem dX5_isBefore_14 : decode cX5_isBefore 14 = .ok (.invokestatic 61, 3) := by decide +kernel
theorem dX5_isBefore_17 : decode cX5_isBefore 17 = .ok (.ifCond .eq 7, 3) := by decide +kernel
theorem dX5_isBefore_20 : decode cX5_isBefore 20 = .ok (.iconst 1, 1) := by decide +kernel
theorem dX5_isBefore_21 : decode cX5_isBefore 21 = .ok (.goto 4, 3) := by decide +kernel
theorem dX5_isBefore_24 : decode cX5_isBefore 24 = .ok (.iconst 0, 1) := by decide +kernel
theorem dX5_isBefore_25 : decode cX5_isBefore 25 = .ok (.istore_n 3, 1) := by decide +kernel
theorem dX5_isBefore_26 : decode cX5_isBefore 26 = .ok (.aload_n 0, 1) := by decide +kernel
theorem dX5_isBefore_27 : decode cX5_isBefore 27 = .ok (.iload_n 3, 1) := by decide +kernel
theorem dX5_isBefore_28 : decode cX5_isBefore 28 = .ok (.ifCond .eq 7, 3) := by decide +kernel
theorem dX5_isBefore_31 : decode cX5_isBefore 31 = .ok (.iconst 0, 1) := by decide +kernel
theorem dX5_isBefore_32 : decode cX5_isBefore 32 = .ok (.goto 4, 3) := by decide +kernel
theorem dX5_isBefore_35 : decode cX5_isBefore 35 = .ok (.iconst 1, 1) := by decide +kernel
theorem dX5_isBefore_36 : decode cX5_isBefore 36 = .ok (.invokevirtual 84, 3) := by decide +kernel
theorem dX5_isBefore_39 : decode cX5_isBefore 39 = .ok (.ifCond .eq 26, 3) := by decide +kernel
theorem dX5_isBefore_42 : decode cX5_isBefore 42 = .ok (.iload_n 1, 1) := by decide +kernel
theorem dX5_isBefore_43 : decode cX5_isBefore 43 = .ok (.iload_n 2, 1) := by decide +kernel
theorem dX5_isBefore_44 : decode cX5_isBefore 44 = .ok (.if_icmp .eq 21, 3) := by decide +kernel
theorem dX5_isBefore_47 : decode cX5_isBefore 47 = .ok (.iload_n 2, 1) := by decide +kernel
theorem dX5_isBefore_48 : decode cX5_isBefore 48 = .ok (.iload_n 1, 1) := by decide +kernel
theorem dX5_isBefore_49 : decode cX5_isBefore 49 = .ok (.isub, 1) := by decide +kernel
theorem dX5_isBefore_50 : decode cX5_isBefore 50 = .ok (.bipush 64, 2) := by decide +kernel
theorem dX5_isBefore_52 : decode cX5_isBefore 52 = .ok (.iadd, 1) := by decide +kernel
theorem dX5_isBefore_53 : decode cX5_isBefore 53 = .ok (.bipush 64, 2) := by decide +kernel
theorem dX5_isBefore_55 : decode cX5_isBefore 55 = .ok (.irem, 1) := by decide +kernel
theorem dX5_isBefore_56 : decode cX5_isBefore 56 = .ok (.bipush 32, 2) := by decide +kernel
theorem dX5_isBefore_58 : decode cX5_isBefore 58 = .ok (.if_icmp .ge 7, 3) := by decide +kernel
theorem dX5_isBefore_61 : decode cX5_isBefore 61 = .ok (.iconst 1, 1) := by decide +kernel
theorem dX5_isBefore_62 : decode cX5_isBefore 62 = .ok (.goto 4, 3) := by decide +kernel
theorem dX5_isBefore_65 : decode cX5_isBefore 65 = .ok (.iconst 0, 1) := by decide +kernel
theorem dX5_isBefore_66 : decode cX5_isBefore 66 = .ok (.ireturn, 1) := by decide +kernel
set_option maxRecDepth 20000 in
theorem ggX5_knows_X5_isInSnapshot : GoodIn wsX5_knows wsX5_isInSnapshot := goodIn_r _ [5, 6, 7, 8, 9, 10, 11, 12, 13, 14, 15, 16, 17, 18, 19, 20, 21, 22, 23] (by decide +kernel) (by decide +kernel)
set_option maxRecDepth 20000 in
theorem gX5_knows_X5_isInSnapshot : GoodIn wsX5_knows (wsV RX5 72 RX5 yX5_isInSnapshot wsX5_isInSnapshot) := goodIn_app (goodIn_of _ (by decide +kernel)) ggX5_knows_X5_isInSnapshot
theorem dX5_knows_0 : decode cX5_knows 0 = .ok (.iload_n 2, 1) := by decide +kernel
theorem dX5_knows_1 : decode cX5_knows 1 = .ok (.iload_n 1, 1) := by decide +kernel
theorem dX5_knows_2 : decode cX5_knows 2 = .ok (.if_icmp .eq 12, 3) := by decide +kernel
theorem dX5_knows_5 : decode cX5_knows 5 = .ok (.aload_n 0, 1) := by decide +kernel
theorem dX5_knows_6 : decode cX5_knows 6 = .ok (.iload_n 1, 1) := by decide +kernel
theorem dX5_knows_7 : decode cX5_knows 7 = .ok (.iload_n 2, 1) := by decide +kernel
theorem dX5_knows_8 : decode cX5_knows 8 = .ok (.invokevirtual 72, 3) := by decide +kernel
theorem dX5_knows_11 : decode cX5_knows 11 = .ok (.ifCond .eq 7, 3) := by decide +kernel
theorem dX5_knows_14 : decode cX5_knows 14 = .ok (.iconst 1, 1) := by decide +kernel
theorem dX5_knows_15 : decode cX5_knows 15 = .ok (.goto 4, 3) := by decide +kernel
theorem dX5_knows_18 : decode cX5_knows 18 = .ok (.iconst 0, 1) := by decide +kernel
theorem dX5_knows_19 : decode cX5_knows 19 = .ok (.ireturn, 1) := by decide +kernel
set_option maxRecDepth 20000 in
theorem ggX5_sees_X5_knows : GoodIn wsX5_sees wsX5_knows := goodIn_r _ [8, 9, 10, 11, 7, 12, 13, 14, 15, 16, 17, 18, 19, 20, 21, 22, 23, 24, 25, 26, 27, 28, 29, 30] (by decide +kernel) (by decide +kernel)
set_option maxRecDepth 20000 in
theorem gX5_sees_X5_knows : GoodIn wsX5_sees (wsV RX5 90 RX5 yX5_knows wsX5_knows) := goodIn_app (goodIn_of _ (by decide +kernel)) ggX5_sees_X5_knows
theorem dX5_sees_0 : decode cX5_sees 0 = .ok (.aload_n 0, 1) := by decide +kernel
theorem dX5_sees_1 : decode cX5_sees 1 = .ok (.getfield 37, 3) := by decide +kernel
theorem dX5_sees_4 : decode cX5_sees 4 = .ok (.iload_n 2, 1) := by decide +kernel
theorem dX5_sees_5 : decode cX5_sees 5 = .ok (.baload, 1) := by decide +kernel
theorem dX5_sees_6 : decode cX5_sees 6 = .ok (.ifCond .ne 17, 3) := by decide +kernel
theorem dX5_sees_9 : decode cX5_sees 9 = .ok (.aload_n 0, 1) := by decide +kernel
theorem dX5_sees_10 : decode cX5_sees 10 = .ok (.iload_n 1, 1) := by decide +kernel
theorem dX5_sees_11 : decode cX5_sees 11 = .ok (.aload_n 0, 1) := by decide +kernel
theorem dX5_sees_12 : decode cX5_sees 12 = .ok (.getfield 34, 3) := by decide +kernel
theorem dX5_sees_15 : decode cX5_sees 15 = .ok (.iload_n 2, 1) := by decide +kernel
theorem dX5_sees_16 : decode cX5_sees 16 = .ok (.iaload, 1) := by decide +kernel
theorem dX5_sees_17 : decode cX5_sees 17 = .ok (.invokevirtual 90, 3) := by decide +kernel
theorem dX5_sees_20 : decode cX5_sees 20 = .ok (.ifCond .eq 31, 3) := by decide +kernel
theorem dX5_sees_23 : decode cX5_sees 23 = .ok (.aload_n 0, 1) := by decide +kernel
theorem dX5_sees_24 : decode cX5_sees 24 = .ok (.getfield 40, 3) := by decide +kernel
theorem dX5_sees_27 : decode cX5_sees 27 = .ok (.iload_n 2, 1) := by decide +kernel
theorem dX5_sees_28 : decode cX5_sees 28 = .ok (.iaload, 1) := by decide +kernel
theorem dX5_sees_29 : decode cX5_sees 29 = .ok (.iconst (-1), 1) := by decide +kernel
theorem dX5_sees_30 : decode cX5_sees 30 = .ok (.if_icmp .eq 17, 3) := by decide +kernel
theorem dX5_sees_33 : decode cX5_sees 33 = .ok (.aload_n 0, 1) := by decide +kernel
theorem dX5_sees_34 : decode cX5_sees 34 = .ok (.iload_n 1, 1) := by decide +kernel
theorem dX5_sees_35 : decode cX5_sees 35 = .ok (.aload_n 0, 1) := by decide +kernel
theorem dX5_sees_36 : decode cX5_sees 36 = .ok (.getfield 40, 3) := by decide +kernel
theorem dX5_sees_39 : decode cX5_sees 39 = .ok (.iload_n 2, 1) := by decide +kernel
theorem dX5_sees_40 : decode cX5_sees 40 = .ok (.iaload, 1) := by decide +kernel
theorem dX5_sees_41 : decode cX5_sees 41 = .ok (.invokevirtual 90, 3) := by decide +kernel
theorem dX5_sees_44 : decode cX5_sees 44 = .ok (.ifCond .ne 7, 3) := by decide +kernel
theorem dX5_sees_47 : decode cX5_sees 47 = .ok (.iconst 1, 1) := by decide +kernel
theorem dX5_sees_48 : decode cX5_sees 48 = .ok (.goto 4, 3) := by decide +kernel
theorem dX5_sees_51 : decode cX5_sees 51 = .ok (.iconst 0, 1) := by decide +kernel
theorem dX5_sees_52 : decode cX5_sees 52 = .ok (.ireturn, 1) := by decide +kernel
set_option maxRecDepth 20000 in
theorem ggX5_seen_X5_sees : GoodIn wsX5_seen wsX5_sees := goodIn_r _ [8, 9, 10, 11, 12, 13, 14, 7, 15, 16, 17, 18, 19, 20, 21, 22, 23, 24, 25, 26, 27, 28, 29, 30, 31, 32, 33, 34, 35, 36, 37] (by decide +kernel) (by decide +kernel)
set_option maxRecDepth 20000 in
theorem gX5_seen_X5_sees : GoodIn wsX5_seen (wsV RX5 93 RX5 yX5_sees wsX5_sees) := goodIn_app (goodIn_of _ (by decide +kernel)) ggX5_seen_X5_sees
theorem dX5_seen_0 : decode cX5_seen 0 = .ok (.aload_n 0, 1) := by decide +kernel
theorem dX5_seen_1 : decode cX5_seen 1 = .ok (.getfield 52, 3) := by decide +kernel
theorem dX5_seen_4 : decode cX5_seen 4 = .ok (.iload_n 2, 1) := by decide +kernel
theorem dX5_seen_5 : decode cX5_seen 5 = .ok (.iaload, 1) := by decide +kernel
theorem dX5_seen_6 : decode cX5_seen 6 = .ok (.iconst 1, 1) := by decide +kernel
theorem dX5_seen_7 : decode cX5_seen 7 = .ok (.isub, 1) := by decide +kernel
theorem dX5_seen_8 : decode cX5_seen 8 = .ok (.istore_n 3, 1) := by decide +kernel
theorem dX5_seen_9 : decode cX5_seen 9 = .ok (.iload_n 3, 1) := by decide +kernel
theorem dX5_seen_10 : decode cX5_seen 10 = .ok (.ifCond .lt 53, 3) := by decide +kernel
theorem dX5_seen_13 : decode cX5_seen 13 = .ok (.aload_n 0, 1) := by decide +kernel
theorem dX5_seen_14 : decode cX5_seen 14 = .ok (.getfield 49, 3) := by decide +kernel
theorem dX5_seen_17 : decode cX5_seen 17 = .ok (.bipush 64, 2) := by decide +kernel
theorem dX5_seen_19 : decode cX5_seen 19 = .ok (.iload_n 2, 1) := by decide +kernel
theorem dX5_seen_20 : decode cX5_seen 20 = .ok (.imul, 1) := by decide +kernel
theorem dX5_seen_21 : decode cX5_seen 21 = .ok (.iload_n 3, 1) := by decide +kernel
theorem dX5_seen_22 : decode cX5_seen 22 = .ok (.iadd, 1) := by decide +kernel
theorem dX5_seen_23 : decode cX5_seen 23 = .ok (.iaload, 1) := by decide +kernel
theorem dX5_seen_24 : decode cX5_seen 24 = .ok (.istore 4, 2) := by decide +kernel
theorem dX5_seen_26 : decode cX5_seen 26 = .ok (.iload 4, 2) := by decide +kernel
theorem dX5_seen_28 : decode cX5_seen 28 = .ok (.iconst (-1), 1) := by decide +kernel
theorem dX5_seen_29 : decode cX5_seen 29 = .ok (.if_icmp .eq 28, 3) := by decide +kernel
theorem dX5_seen_32 : decode cX5_seen 32 = .ok (.aload_n 0, 1) := by decide +kernel
theorem dX5_seen_33 : decode cX5_seen 33 = .ok (.iload_n 1, 1) := by decide +kernel
theorem dX5_seen_34 : decode cX5_seen 34 = .ok (.iload 4, 2) := by decide +kernel
theorem dX5_seen_36 : decode cX5_seen 36 = .ok (.invokevirtual 93, 3) := by decide +kernel
theorem dX5_seen_39 : decode cX5_seen 39 = .ok (.ifCond .eq 6, 3) := by decide +kernel
theorem dX5_seen_42 : decode cX5_seen 42 = .ok (.iload 4, 2) := by decide +kernel
theorem dX5_seen_44 : decode cX5_seen 44 = .ok (.ireturn, 1) := by decide +kernel
theorem dX5_seen_45 : decode cX5_seen 45 = .ok (.aload_n 0, 1) := by decide +kernel
theorem dX5_seen_46 : decode cX5_seen 46 = .ok (.getfield 43, 3) := by decide +kernel
theorem dX5_seen_49 : decode cX5_seen 49 = .ok (.iload 4, 2) := by decide +kernel
theorem dX5_seen_51 : decode cX5_seen 51 = .ok (.iaload, 1) := by decide +kernel
theorem dX5_seen_52 : decode cX5_seen 52 = .ok (.istore 4, 2) := by decide +kernel
theorem dX5_seen_54 : decode cX5_seen 54 = .ok (.goto (-28), 3) := by decide +kernel
theorem dX5_seen_57 : decode cX5_seen 57 = .ok (.iinc 3 (-1), 3) := by decide +kernel
theorem dX5_seen_60 : decode cX5_seen 60 = .ok (.goto (-51), 3) := by decide +kernel
theorem dX5_seen_63 : decode cX5_seen 63 = .ok (.iconst (-1), 1) := by decide +kernel
theorem dX5_seen_64 : decode cX5_seen 64 = .ok (.ireturn, 1) := by decide +kernel
set_option maxRecDepth 20000 in
theorem ggX5_readNow_X5_isTransaction : GoodIn wsX5_readNow wsX5_isTransaction := goodIn_r _ [6, 7, 8, 9, 5, 10, 47, 48, 49, 50, 51, 52, 53, 54, 55, 56, 57, 58, 59, 60, 61, 62, 63] (by decide +kernel) (by decide +kernel)
set_option maxRecDepth 20000 in
theorem gX5_readNow_X5_isTransaction : GoodIn wsX5_readNow (wsV RX5 87 RX5 yX5_isTransaction wsX5_isTransaction) := goodIn_app (goodIn_of _ (by decide +kernel)) ggX5_readNow_X5_isTransaction
set_option maxRecDepth 20000 in
theorem ggX5_readNow_X5_isKey : GoodIn wsX5_readNow wsX5_isKey := goodIn_r _ [13, 8, 9, 5, 10] (by decide +kernel) (by decide +kernel)
set_option maxRecDepth 20000 in
theorem gX5_readNow_X5_isKey : GoodIn wsX5_readNow (va_wsS RX5 96 yX5_isKey wsX5_isKey) := goodIn_app (goodIn_of _ (by decide +kernel)) ggX5_readNow_X5_isKey
set_option maxRecDepth 20000 in
theorem ggX5_readNow_X5_isActive : GoodIn wsX5_readNow wsX5_isActive := goodIn_r _ [17, 18, 47, 48, 49, 50, 51, 52, 53, 54, 55, 56, 57, 58, 59, 60, 61, 62, 63] (by decide +kernel) (by decide +kernel)
set_option maxRecDepth 20000 in
theorem gX5_readNow_X5_isActive : GoodIn wsX5_readNow (wsV RX5 68 RX5 yX5_isActive wsX5_isActive) := goodIn_app (goodIn_of _ (by decide +kernel)) ggX5_readNow_X5_isActive
set_option maxRecDepth 20000 in
theorem ggX5_readNow_X5_isFine : GoodIn wsX5_readNow wsX5_isFine := goodIn_r _ [22, 23, 47, 48, 49, 50, 51, 52, 53, 54, 55, 56, 57, 58, 59, 60, 61, 62, 63] (by decide +kernel) (by decide +kernel)
set_option maxRecDepth 20000 in
theorem gX5_readNow_X5_isFine : GoodIn wsX5_readNow (wsV RX5 84 RX5 yX5_isFine wsX5_isFine) := goodIn_app (goodIn_of _ (by decide +kernel)) ggX5_readNow_X5_isFine
set_option maxRecDepth 20000 in
theorem ggX5_readNow_X5_seen : GoodIn wsX5_readNow wsX5_seen := goodIn_r _ [27, 28, 29, 30, 31, 32, 33, 5, 34, 35, 36, 37, 38, 39, 40, 41, 42, 43, 44, 45, 46, 47, 48, 49, 50, 51, 52, 53, 54, 55, 56, 57, 58, 59, 60, 61, 62, 63] (by decide +kernel) (by decide +kernel)
set_option maxRecDepth 20000 in
theorem gX5_readNow_X5_seen : GoodIn wsX5_readNow (wsV RX5 99 RX5 yX5_seen wsX5_seen) := goodIn_app (goodIn_of _ (by decide +kernel)) ggX5_readNow_X5_seen
theorem dX5_readNow_0 : decode cX5_readNow 0 = .ok (.aload_n 0, 1) := by decide +kernel
theorem dX5_readNow_1 : decode cX5_readNow 1 = .ok (.iload_n 1, 1) := by decide +kernel
theorem dX5_readNow_2 : decode cX5_readNow 2 = .ok (.invokevirtual 87, 3) := by decide +kernel
theorem dX5_readNow_5 : decode cX5_readNow 5 = .ok (.istore_n 3, 1) := by decide +kernel
theorem dX5_readNow_6 : decode cX5_readNow 6 = .ok (.aload_n 0, 1) := by decide +kernel
theorem dX5_readNow_7 : decode cX5_readNow 7 = .ok (.iload_n 3, 1) := by decide +kernel
theorem dX5_readNow_8 : decode cX5_readNow 8 = .ok (.ifCond .ne 7, 3) := by decide +kernel
theorem dX5_readNow_11 : decode cX5_readNow 11 = .ok (.iconst 1, 1) := by decide +kernel
theorem dX5_readNow_12 : decode cX5_readNow 12 = .ok (.goto 27, 3) := by decide +kernel
theorem dX5_readNow_15 : decode cX5_readNow 15 = .ok (.iload_n 2, 1) := by decide +kernel
theorem dX5_readNow_16 : decode cX5_readNow 16 = .ok (.invokestatic 96, 3) := by decide +kernel
theorem dX5_readNow_19 : decode cX5_readNow 19 = .ok (.ifCond .ne 7, 3) := by decide +kernel
theorem dX5_readNow_22 : decode cX5_readNow 22 = .ok (.iconst 2, 1) := by decide +kernel
theorem dX5_readNow_23 : decode cX5_readNow 23 = .ok (.goto 16, 3) := by decide +kernel
theorem dX5_readNow_26 : decode cX5_readNow 26 = .ok (.aload_n 0, 1) := by decide +kernel
theorem dX5_readNow_27 : decode cX5_readNow 27 = .ok (.iload_n 1, 1) := by decide +kernel
theorem dX5_readNow_28 : decode cX5_readNow 28 = .ok (.invokevirtual 68, 3) := by decide +kernel
theorem dX5_readNow_31 : decode cX5_readNow 31 = .ok (.ifCond .ne 7, 3) := by decide +kernel
theorem dX5_readNow_34 : decode cX5_readNow 34 = .ok (.iconst 3, 1) := by decide +kernel
theorem dX5_readNow_35 : decode cX5_readNow 35 = .ok (.goto 4, 3) := by decide +kernel
theorem dX5_readNow_38 : decode cX5_readNow 38 = .ok (.iconst 0, 1) := by decide +kernel
theorem dX5_readNow_39 : decode cX5_readNow 39 = .ok (.invokevirtual 84, 3) := by decide +kernel
theorem dX5_readNow_42 : decode cX5_readNow 42 = .ok (.ifCond .ne 5, 3) := by decide +kernel
theorem dX5_readNow_45 : decode cX5_readNow 45 = .ok (.iconst 0, 1) := by decide +kernel
theorem dX5_readNow_46 : decode cX5_readNow 46 = .ok (.ireturn, 1) := by decide +kernel
theorem dX5_readNow_47 : decode cX5_readNow 47 = .ok (.aload_n 0, 1) := by decide +kernel
theorem dX5_readNow_48 : decode cX5_readNow 48 = .ok (.iload_n 1, 1) := by decide +kernel
theorem dX5_readNow_49 : decode cX5_readNow 49 = .ok (.iload_n 2, 1) := by decide +kernel
theorem dX5_readNow_50 : decode cX5_readNow 50 = .ok (.invokevirtual 99, 3) := by decide +kernel
theorem dX5_readNow_53 : decode cX5_readNow 53 = .ok (.istore 4, 2) := by decide +kernel
theorem dX5_readNow_55 : decode cX5_readNow 55 = .ok (.iload 4, 2) := by decide +kernel
theorem dX5_readNow_57 : decode cX5_readNow 57 = .ok (.iconst (-1), 1) := by decide +kernel
theorem dX5_readNow_58 : decode cX5_readNow 58 = .ok (.if_icmp .ne 7, 3) := by decide +kernel
theorem dX5_readNow_61 : decode cX5_readNow 61 = .ok (.iconst (-1), 1) := by decide +kernel
theorem dX5_readNow_62 : decode cX5_readNow 62 = .ok (.goto 10, 3) := by decide +kernel
theorem dX5_readNow_65 : decode cX5_readNow 65 = .ok (.aload_n 0, 1) := by decide +kernel
theorem dX5_readNow_66 : decode cX5_readNow 66 = .ok (.getfield 31, 3) := by decide +kernel
theorem dX5_readNow_69 : decode cX5_readNow 69 = .ok (.iload 4, 2) := by decide +kernel
theorem dX5_readNow_71 : decode cX5_readNow 71 = .ok (.iaload, 1) := by decide +kernel
theorem dX5_readNow_72 : decode cX5_readNow 72 = .ok (.ireturn, 1) := by decide +kernel
set_option maxRecDepth 20000 in
theorem ggX5_read_X5_readNow : GoodIn wsX5_read wsX5_readNow := goodIn_r _ [5, 6, 7, 8, 9, 4, 10, 11, 12, 13, 14, 15, 16, 17, 18, 19, 20, 21, 22, 23, 24, 25, 26, 27, 28, 29, 30, 31, 32, 33, 34, 35, 36, 37, 38, 39, 40, 41, 42, 43, 44, 45, 46, 47, 48, 49, 50, 51, 52, 53, 54, 55, 56, 57, 58, 59, 60, 61, 62, 63, 64, 65, 66, 67] (by decide +kernel) (by decide +kernel)
set_option maxRecDepth 20000 in
theorem gX5_read_X5_readNow : GoodIn wsX5_read (wsV RX5 103 RX5 yX5_readNow wsX5_readNow) := goodIn_app (goodIn_of _ (by decide +kernel)) ggX5_read_X5_readNow
theorem dX5_read_0 : decode cX5_read 0 = .ok (.aload_n 0, 1) := by decide +kernel
theorem dX5_read_1 : decode cX5_read 1 = .ok (.iload_n 1, 1) := by decide +kernel
theorem dX5_read_2 : decode cX5_read 2 = .ok (.iload_n 2, 1) := by decide +kernel
theorem dX5_read_3 : decode cX5_read 3 = .ok (.invokevirtual 103, 3) := by decide +kernel
theorem dX5_read_6 : decode cX5_read 6 = .ok (.ireturn, 1) := by decide +kernel
set_option maxRecDepth 20000 in
theorem ggX5_readPlain_X5_readNow : GoodIn wsX5_readPlain wsX5_readNow := goodIn_r _ [5, 6, 7, 8, 9, 4, 10, 11, 12, 13, 14, 15, 16, 17, 18, 19, 20, 21, 22, 23, 24, 25, 26, 27, 28, 29, 30, 31, 32, 33, 34, 35, 36, 37, 38, 39, 40, 41, 42, 43, 44, 45, 46, 47, 48, 49, 50, 51, 52, 53, 54, 55, 56, 57, 58, 59, 60, 61, 62, 63, 64, 65, 66, 67] (by decide +kernel) (by decide +kernel)
set_option maxRecDepth 20000 in
theorem gX5_readPlain_X5_readNow : GoodIn wsX5_readPlain (wsV RX5 103 RX5 yX5_readNow wsX5_readNow) := goodIn_app (goodIn_of _ (by decide +kernel)) ggX5_readPlain_X5_readNow
theorem dX5_readPlain_0 : decode cX5_readPlain 0 = .ok (.aload_n 0, 1) := by decide +kernel
theorem dX5_readPlain_1 : decode cX5_readPlain 1 = .ok (.iload_n 1, 1) := by decide +kernel
theorem dX5_readPlain_2 : decode cX5_readPlain 2 = .ok (.iload_n 2, 1) := by decide +kernel
theorem dX5_readPlain_3 : decode cX5_readPlain 3 = .ok (.invokevirtual 103, 3) := by decide +kernel
theorem dX5_readPlain_6 : decode cX5_readPlain 6 = .ok (.ireturn, 1) := by decide +kernel
set_option maxRecDepth 20000 in
theorem ggX5_bars_X5_isActive : GoodIn wsX5_bars wsX5_isActive := goodIn_r _ [6, 1, 12, 13, 14, 15, 16, 17, 18, 19, 20, 21, 22, 23, 24, 25, 26, 27, 28] (by decide +kernel) (by decide +kernel)
set_option maxRecDepth 20000 in
theorem gX5_bars_X5_isActive : GoodIn wsX5_bars (wsV RX5 68 RX5 yX5_isActive wsX5_isActive) := goodIn_app (goodIn_of _ (by decide +kernel)) ggX5_bars_X5_isActive
set_option maxRecDepth 20000 in
theorem ggX5_bars_X5_isInSnapshot : GoodIn wsX5_bars wsX5_isInSnapshot := goodIn_r _ [10, 11, 12, 13, 14, 15, 16, 17, 18, 19, 20, 21, 22, 23, 24, 25, 26, 27, 28] (by decide +kernel) (by decide +kernel)
set_option maxRecDepth 20000 in
theorem gX5_bars_X5_isInSnapshot : GoodIn wsX5_bars (wsV RX5 72 RX5 yX5_isInSnapshot wsX5_isInSnapshot) := goodIn_app (goodIn_of _ (by decide +kernel)) ggX5_bars_X5_isInSnapshot
theorem dX5_bars_0 : decode cX5_bars 0 = .ok (.iload_n 2, 1) := by decide +kernel
theorem dX5_bars_1 : decode cX5_bars 1 = .ok (.iconst (-1), 1) := by decide +kernel
theorem dX5_bars_2 : decode cX5_bars 2 = .ok (.if_icmp .eq 39, 3) := by decide +kernel
theorem dX5_bars_5 : decode cX5_bars 5 = .ok (.iload_n 2, 1) := by decide +kernel
theorem dX5_bars_6 : decode cX5_bars 6 = .ok (.iload_n 1, 1) := by decide +kernel
theorem dX5_bars_7 : decode cX5_bars 7 = .ok (.if_icmp .eq 34, 3) := by decide +kernel
theorem dX5_bars_10 : decode cX5_bars 10 = .ok (.aload_n 0, 1) := by decide +kernel
theorem dX5_bars_11 : decode cX5_bars 11 = .ok (.iload_n 2, 1) := by decide +kernel
theorem dX5_bars_12 : decode cX5_bars 12 = .ok (.invokevirtual 68, 3) := by decide +kernel
theorem dX5_bars_15 : decode cX5_bars 15 = .ok (.ifCond .ne 22, 3) := by decide +kernel
theorem dX5_bars_18 : decode cX5_bars 18 = .ok (.aload_n 0, 1) := by decide +kernel
theorem dX5_bars_19 : decode cX5_bars 19 = .ok (.getfield 17, 3) := by decide +kernel
theorem dX5_bars_22 : decode cX5_bars 22 = .ok (.iload_n 2, 1) := by decide +kernel
theorem dX5_bars_23 : decode cX5_bars 23 = .ok (.iaload, 1) := by decide +kernel
theorem dX5_bars_24 : decode cX5_bars 24 = .ok (.iconst 1, 1) := by decide +kernel
theorem dX5_bars_25 : decode cX5_bars 25 = .ok (.if_icmp .ne 16, 3) := by decide +kernel
theorem dX5_bars_28 : decode cX5_bars 28 = .ok (.aload_n 0, 1) := by decide +kernel
theorem dX5_bars_29 : decode cX5_bars 29 = .ok (.iload_n 1, 1) := by decide +kernel
theorem dX5_bars_30 : decode cX5_bars 30 = .ok (.iload_n 2, 1) := by decide +kernel
theorem dX5_bars_31 : decode cX5_bars 31 = .ok (.invokevirtual 72, 3) := by decide +kernel
theorem dX5_bars_34 : decode cX5_bars 34 = .ok (.ifCond .ne 7, 3) := by decide +kernel
theorem dX5_bars_37 : decode cX5_bars 37 = .ok (.iconst 1, 1) := by decide +kernel
theorem dX5_bars_38 : decode cX5_bars 38 = .ok (.goto 4, 3) := by decide +kernel
theorem dX5_bars_41 : decode cX5_bars 41 = .ok (.iconst 0, 1) := by decide +kernel
theorem dX5_bars_42 : decode cX5_bars 42 = .ok (.ireturn, 1) := by decide +kernel
set_option maxRecDepth 20000 in
theorem ggX5_isRefused_X5_bars : GoodIn wsX5_isRefused wsX5_bars := goodIn_r _ [9, 10, 11, 12, 13, 8, 14, 15, 16, 17, 18, 19, 20, 21, 22, 23, 24, 25, 26, 27, 28, 29, 30, 31, 32, 33, 34, 35, 36] (by decide +kernel) (by decide +kernel)
set_option maxRecDepth 20000 in
theorem gX5_isRefused_X5_bars : GoodIn wsX5_isRefused (wsV RX5 106 RX5 yX5_bars wsX5_bars) := goodIn_app (goodIn_of _ (by decide +kernel)) ggX5_isRefused_X5_bars
theorem dX5_isRefused_0 : decode cX5_isRefused 0 = .ok (.iconst 0, 1) := by decide +kernel
theorem dX5_isRefused_1 : decode cX5_isRefused 1 = .ok (.istore_n 3, 1) := by decide +kernel
theorem dX5_isRefused_2 : decode cX5_isRefused 2 = .ok (.iconst 0, 1) := by decide +kernel
theorem dX5_isRefused_3 : decode cX5_isRefused 3 = .ok (.istore 4, 2) := by decide +kernel
theorem dX5_isRefused_5 : decode cX5_isRefused 5 = .ok (.iload 4, 2) := by decide +kernel
theorem dX5_isRefused_7 : decode cX5_isRefused 7 = .ok (.bipush 32, 2) := by decide +kernel
theorem dX5_isRefused_9 : decode cX5_isRefused 9 = .ok (.if_icmp .ge 70, 3) := by decide +kernel
theorem dX5_isRefused_12 : decode cX5_isRefused 12 = .ok (.iload_n 3, 1) := by decide +kernel
theorem dX5_isRefused_13 : decode cX5_isRefused 13 = .ok (.ifCond .ne 54, 3) := by decide +kernel
theorem dX5_isRefused_16 : decode cX5_isRefused 16 = .ok (.aload_n 0, 1) := by decide +kernel
theorem dX5_isRefused_17 : decode cX5_isRefused 17 = .ok (.getfield 24, 3) := by decide +kernel
theorem dX5_isRefused_20 : decode cX5_isRefused 20 = .ok (.iload 4, 2) := by decide +kernel
theorem dX5_isRefused_22 : decode cX5_isRefused 22 = .ok (.baload, 1) := by decide +kernel
theorem dX5_isRefused_23 : decode cX5_isRefused 23 = .ok (.ifCond .eq 48, 3) := by decide +kernel
theorem dX5_isRefused_26 : decode cX5_isRefused 26 = .ok (.aload_n 0, 1) := by decide +kernel
theorem dX5_isRefused_27 : decode cX5_isRefused 27 = .ok (.getfield 28, 3) := by decide +kernel
theorem dX5_isRefused_30 : decode cX5_isRefused 30 = .ok (.iload 4, 2) := by decide +kernel
theorem dX5_isRefused_32 : decode cX5_isRefused 32 = .ok (.iaload, 1) := by decide +kernel
theorem dX5_isRefused_33 : decode cX5_isRefused 33 = .ok (.iload_n 2, 1) := by decide +kernel
theorem dX5_isRefused_34 : decode cX5_isRefused 34 = .ok (.if_icmp .ne 37, 3) := by decide +kernel
theorem dX5_isRefused_37 : decode cX5_isRefused 37 = .ok (.aload_n 0, 1) := by decide +kernel
theorem dX5_isRefused_38 : decode cX5_isRefused 38 = .ok (.iload_n 1, 1) := by decide +kernel
theorem dX5_isRefused_39 : decode cX5_isRefused 39 = .ok (.aload_n 0, 1) := by decide +kernel
theorem dX5_isRefused_40 : decode cX5_isRefused 40 = .ok (.getfield 34, 3) := by decide +kernel
theorem dX5_isRefused_43 : decode cX5_isRefused 43 = .ok (.iload 4, 2) := by decide +kernel
theorem dX5_isRefused_45 : decode cX5_isRefused 45 = .ok (.iaload, 1) := by decide +kernel
theorem dX5_isRefused_46 : decode cX5_isRefused 46 = .ok (.invokevirtual 106, 3) := by decide +kernel
theorem dX5_isRefused_49 : decode cX5_isRefused 49 = .ok (.ifCond .ne 18, 3) := by decide +kernel
theorem dX5_isRefused_52 : decode cX5_isRefused 52 = .ok (.aload_n 0, 1) := by decide +kernel
theorem dX5_isRefused_53 : decode cX5_isRefused 53 = .ok (.iload_n 1, 1) := by decide +kernel
theorem dX5_isRefused_54 : decode cX5_isRefused 54 = .ok (.aload_n 0, 1) := by decide +kernel
theorem dX5_isRefused_55 : decode cX5_isRefused 55 = .ok (.getfield 40, 3) := by decide +kernel
theorem dX5_isRefused_58 : decode cX5_isRefused 58 = .ok (.iload 4, 2) := by decide +kernel
theorem dX5_isRefused_60 : decode cX5_isRefused 60 = .ok (.iaload, 1) := by decide +kernel
theorem dX5_isRefused_61 : decode cX5_isRefused 61 = .ok (.invokevirtual 106, 3) := by decide +kernel
theorem dX5_isRefused_64 : decode cX5_isRefused 64 = .ok (.ifCond .eq 7, 3) := by decide +kernel
theorem dX5_isRefused_67 : decode cX5_isRefused 67 = .ok (.iconst 1, 1) := by decide +kernel
theorem dX5_isRefused_68 : decode cX5_isRefused 68 = .ok (.goto 4, 3) := by decide +kernel
theorem dX5_isRefused_71 : decode cX5_isRefused 71 = .ok (.iconst 0, 1) := by decide +kernel
theorem dX5_isRefused_72 : decode cX5_isRefused 72 = .ok (.istore_n 3, 1) := by decide +kernel
theorem dX5_isRefused_73 : decode cX5_isRefused 73 = .ok (.iinc 4 1, 3) := by decide +kernel
theorem dX5_isRefused_76 : decode cX5_isRefused 76 = .ok (.goto (-71), 3) := by decide +kernel
theorem dX5_isRefused_79 : decode cX5_isRefused 79 = .ok (.iload_n 3, 1) := by decide +kernel
theorem dX5_isRefused_80 : decode cX5_isRefused 80 = .ok (.ireturn, 1) := by decide +kernel
theorem dX5_free_0 : decode cX5_free 0 = .ok (.iload_n 1, 1) := by decide +kernel
theorem dX5_free_1 : decode cX5_free 1 = .ok (.istore_n 3, 1) := by decide +kernel
theorem dX5_free_2 : decode cX5_free 2 = .ok (.iload_n 3, 1) := by decide +kernel
theorem dX5_free_3 : decode cX5_free 3 = .ok (.iload_n 2, 1) := by decide +kernel
theorem dX5_free_4 : decode cX5_free 4 = .ok (.if_icmp .ge 20, 3) := by decide +kernel
theorem dX5_free_7 : decode cX5_free 7 = .ok (.aload_n 0, 1) := by decide +kernel
theorem dX5_free_8 : decode cX5_free 8 = .ok (.getfield 24, 3) := by decide +kernel
theorem dX5_free_11 : decode cX5_free 11 = .ok (.iload_n 3, 1) := by decide +kernel
theorem dX5_free_12 : decode cX5_free 12 = .ok (.baload, 1) := by decide +kernel
theorem dX5_free_13 : decode cX5_free 13 = .ok (.ifCond .ne 5, 3) := by decide +kernel
theorem dX5_free_16 : decode cX5_free 16 = .ok (.iload_n 3, 1) := by decide +kernel
theorem dX5_free_17 : decode cX5_free 17 = .ok (.ireturn, 1) := by decide +kernel
theorem dX5_free_18 : decode cX5_free 18 = .ok (.iinc 3 1, 3) := by decide +kernel
theorem dX5_free_21 : decode cX5_free 21 = .ok (.goto (-19), 3) := by decide +kernel
theorem dX5_free_24 : decode cX5_free 24 = .ok (.iconst (-1), 1) := by decide +kernel
theorem dX5_free_25 : decode cX5_free 25 = .ok (.ireturn, 1) := by decide +kernel
theorem dX5_puts_0 : decode cX5_puts 0 = .ok (.aload_n 0, 1) := by decide +kernel
theorem dX5_puts_1 : decode cX5_puts 1 = .ok (.getfield 24, 3) := by decide +kernel
theorem dX5_puts_4 : decode cX5_puts 4 = .ok (.iload_n 2, 1) := by decide +kernel
theorem dX5_puts_5 : decode cX5_puts 5 = .ok (.iconst 1, 1) := by decide +kernel
theorem dX5_puts_6 : decode cX5_puts 6 = .ok (.bastore, 1) := by decide +kernel
theorem dX5_puts_7 : decode cX5_puts 7 = .ok (.aload_n 0, 1) := by decide +kernel
theorem dX5_puts_8 : decode cX5_puts 8 = .ok (.getfield 28, 3) := by decide +kernel
theorem dX5_puts_11 : decode cX5_puts 11 = .ok (.iload_n 2, 1) := by decide +kernel
theorem dX5_puts_12 : decode cX5_puts 12 = .ok (.iload_n 3, 1) := by decide +kernel
theorem dX5_puts_13 : decode cX5_puts 13 = .ok (.iastore, 1) := by decide +kernel
theorem dX5_puts_14 : decode cX5_puts 14 = .ok (.aload_n 0, 1) := by decide +kernel
theorem dX5_puts_15 : decode cX5_puts 15 = .ok (.getfield 31, 3) := by decide +kernel
theorem dX5_puts_18 : decode cX5_puts 18 = .ok (.iload_n 2, 1) := by decide +kernel
theorem dX5_puts_19 : decode cX5_puts 19 = .ok (.iload 4, 2) := by decide +kernel
theorem dX5_puts_21 : decode cX5_puts 21 = .ok (.iastore, 1) := by decide +kernel
theorem dX5_puts_22 : decode cX5_puts 22 = .ok (.aload_n 0, 1) := by decide +kernel
theorem dX5_puts_23 : decode cX5_puts 23 = .ok (.getfield 34, 3) := by decide +kernel
theorem dX5_puts_26 : decode cX5_puts 26 = .ok (.iload_n 2, 1) := by decide +kernel
theorem dX5_puts_27 : decode cX5_puts 27 = .ok (.iload_n 1, 1) := by decide +kernel
theorem dX5_puts_28 : decode cX5_puts 28 = .ok (.iastore, 1) := by decide +kernel
theorem dX5_puts_29 : decode cX5_puts 29 = .ok (.aload_n 0, 1) := by decide +kernel
theorem dX5_puts_30 : decode cX5_puts 30 = .ok (.getfield 37, 3) := by decide +kernel
theorem dX5_puts_33 : decode cX5_puts 33 = .ok (.iload_n 2, 1) := by decide +kernel
theorem dX5_puts_34 : decode cX5_puts 34 = .ok (.iconst 0, 1) := by decide +kernel
theorem dX5_puts_35 : decode cX5_puts 35 = .ok (.bastore, 1) := by decide +kernel
theorem dX5_puts_36 : decode cX5_puts 36 = .ok (.aload_n 0, 1) := by decide +kernel
theorem dX5_puts_37 : decode cX5_puts 37 = .ok (.getfield 40, 3) := by decide +kernel
theorem dX5_puts_40 : decode cX5_puts 40 = .ok (.iload_n 2, 1) := by decide +kernel
theorem dX5_puts_41 : decode cX5_puts 41 = .ok (.iconst (-1), 1) := by decide +kernel
theorem dX5_puts_42 : decode cX5_puts 42 = .ok (.iastore, 1) := by decide +kernel
theorem dX5_puts_43 : decode cX5_puts 43 = .ok (.aload_n 0, 1) := by decide +kernel
theorem dX5_puts_44 : decode cX5_puts 44 = .ok (.getfield 43, 3) := by decide +kernel
theorem dX5_puts_47 : decode cX5_puts 47 = .ok (.iload_n 2, 1) := by decide +kernel
theorem dX5_puts_48 : decode cX5_puts 48 = .ok (.iconst (-1), 1) := by decide +kernel
theorem dX5_puts_49 : decode cX5_puts 49 = .ok (.iastore, 1) := by decide +kernel
theorem dX5_puts_50 : decode cX5_puts 50 = .ok (.aload_n 0, 1) := by decide +kernel
theorem dX5_puts_51 : decode cX5_puts 51 = .ok (.getfield 46, 3) := by decide +kernel
theorem dX5_puts_54 : decode cX5_puts 54 = .ok (.iload_n 2, 1) := by decide +kernel
theorem dX5_puts_55 : decode cX5_puts 55 = .ok (.bipush 8, 2) := by decide +kernel
theorem dX5_puts_57 : decode cX5_puts 57 = .ok (.idiv, 1) := by decide +kernel
theorem dX5_puts_58 : decode cX5_puts 58 = .ok (.iconst 0, 1) := by decide +kernel
theorem dX5_puts_59 : decode cX5_puts 59 = .ok (.bastore, 1) := by decide +kernel
theorem dX5_puts_60 : decode cX5_puts 60 = .ok (.return_, 1) := by decide +kernel
theorem dX5_dies_0 : decode cX5_dies 0 = .ok (.aload_n 0, 1) := by decide +kernel
theorem dX5_dies_1 : decode cX5_dies 1 = .ok (.getfield 40, 3) := by decide +kernel
theorem dX5_dies_4 : decode cX5_dies 4 = .ok (.iload_n 2, 1) := by decide +kernel
theorem dX5_dies_5 : decode cX5_dies 5 = .ok (.iload_n 1, 1) := by decide +kernel
theorem dX5_dies_6 : decode cX5_dies 6 = .ok (.iastore, 1) := by decide +kernel
theorem dX5_dies_7 : decode cX5_dies 7 = .ok (.aload_n 0, 1) := by decide +kernel
theorem dX5_dies_8 : decode cX5_dies 8 = .ok (.getfield 46, 3) := by decide +kernel
theorem dX5_dies_11 : decode cX5_dies 11 = .ok (.iload_n 2, 1) := by decide +kernel
theorem dX5_dies_12 : decode cX5_dies 12 = .ok (.bipush 8, 2) := by decide +kernel
theorem dX5_dies_14 : decode cX5_dies 14 = .ok (.idiv, 1) := by decide +kernel
theorem dX5_dies_15 : decode cX5_dies 15 = .ok (.iconst 0, 1) := by decide +kernel
theorem dX5_dies_16 : decode cX5_dies 16 = .ok (.bastore, 1) := by decide +kernel
theorem dX5_dies_17 : decode cX5_dies 17 = .ok (.return_, 1) := by decide +kernel
set_option maxRecDepth 20000 in
theorem ggX5_write_X5_isTransaction : GoodIn wsX5_write wsX5_isTransaction := goodIn_r _ [9, 10, 11, 12, 8, 13, 71, 72, 73, 74, 75, 76, 77, 78, 79, 80, 81, 82, 83, 84, 85, 86, 87] (by decide +kernel) (by decide +kernel)
set_option maxRecDepth 20000 in
theorem gX5_write_X5_isTransaction : GoodIn wsX5_write (wsV RX5 87 RX5 yX5_isTransaction wsX5_isTransaction) := goodIn_app (goodIn_of _ (by decide +kernel)) ggX5_write_X5_isTransaction
set_option maxRecDepth 20000 in
theorem ggX5_write_X5_isKey : GoodIn wsX5_write wsX5_isKey := goodIn_r _ [16, 11, 12, 8, 13] (by decide +kernel) (by decide +kernel)
set_option maxRecDepth 20000 in
theorem gX5_write_X5_isKey : GoodIn wsX5_write (va_wsS RX5 96 yX5_isKey wsX5_isKey) := goodIn_app (goodIn_of _ (by decide +kernel)) ggX5_write_X5_isKey
set_option maxRecDepth 20000 in
theorem ggX5_write_X5_isIn : GoodIn wsX5_write wsX5_isIn := goodIn_r _ [13] (by decide +kernel) (by decide +kernel)
set_option maxRecDepth 20000 in
theorem gX5_write_X5_isIn : GoodIn wsX5_write (va_wsS RX5 61 yX5_isIn wsX5_isIn) := goodIn_app (goodIn_of _ (by decide +kernel)) ggX5_write_X5_isIn
set_option maxRecDepth 20000 in
theorem ggX5_write_X5_isActive : GoodIn wsX5_write wsX5_isActive := goodIn_r _ [20, 21, 71, 72, 73, 74, 75, 76, 77, 78, 79, 80, 81, 82, 83, 84, 85, 86, 87] (by decide +kernel) (by decide +kernel)
set_option maxRecDepth 20000 in
theorem gX5_write_X5_isActive : GoodIn wsX5_write (wsV RX5 68 RX5 yX5_isActive wsX5_isActive) := goodIn_app (goodIn_of _ (by decide +kernel)) ggX5_write_X5_isActive
set_option maxRecDepth 20000 in
theorem ggX5_write_X5_free : GoodIn wsX5_write wsX5_free := goodIn_r _ [25, 26, 71, 72, 73, 74, 75, 76, 77, 78, 79, 80, 81, 82, 83, 84, 85, 86, 87] (by decide +kernel) (by decide +kernel)
set_option maxRecDepth 20000 in
theorem gX5_write_X5_free : GoodIn wsX5_write (wsV RX5 109 RX5 yX5_free wsX5_free) := goodIn_app (goodIn_of _ (by decide +kernel)) ggX5_write_X5_free
set_option maxRecDepth 20000 in
theorem ggX5_write_X5_isRefused : GoodIn wsX5_write wsX5_isRefused := goodIn_r _ [30, 26, 31, 32, 33, 34, 35, 36, 8, 37, 21, 17, 18, 19, 20, 38, 39, 40, 41, 42, 71, 72, 73, 74, 75, 76, 77, 78, 79, 80, 81, 82, 83, 84, 85, 86, 87] (by decide +kernel) (by decide +kernel)
set_option maxRecDepth 20000 in
theorem gX5_write_X5_isRefused : GoodIn wsX5_write (wsV RX5 112 RX5 yX5_isRefused wsX5_isRefused) := goodIn_app (goodIn_of _ (by decide +kernel)) ggX5_write_X5_isRefused
set_option maxRecDepth 20000 in
theorem ggX5_write_X5_isFine : GoodIn wsX5_write wsX5_isFine := goodIn_r _ [46, 47, 71, 72, 73, 74, 75, 76, 77, 78, 79, 80, 81, 82, 83, 84, 85, 86, 87] (by decide +kernel) (by decide +kernel)
set_option maxRecDepth 20000 in
theorem gX5_write_X5_isFine : GoodIn wsX5_write (wsV RX5 84 RX5 yX5_isFine wsX5_isFine) := goodIn_app (goodIn_of _ (by decide +kernel)) ggX5_write_X5_isFine
set_option maxRecDepth 20000 in
theorem ggX5_write_X5_seen : GoodIn wsX5_write wsX5_seen := goodIn_r _ [51, 3, 2, 1, 52, 53, 54, 8, 55, 56, 32, 33, 57, 58, 59, 60, 38, 39, 40, 41, 42, 71, 72, 73, 74, 75, 76, 77, 78, 79, 80, 81, 82, 83, 84, 85, 86, 87] (by decide +kernel) (by decide +kernel)
set_option maxRecDepth 20000 in
theorem gX5_write_X5_seen : GoodIn wsX5_write (wsV RX5 99 RX5 yX5_seen wsX5_seen) := goodIn_app (goodIn_of _ (by decide +kernel)) ggX5_write_X5_seen
set_option maxRecDepth 20000 in
theorem ggX5_write_X5_puts : GoodIn wsX5_write wsX5_puts := goodIn_r _ [64, 26, 31, 65, 32, 56, 33, 1, 66, 71, 72, 73, 74, 75, 76, 77, 78, 79, 80, 81, 82, 83, 84, 85, 86, 87] (by decide +kernel) (by decide +kernel)
set_option maxRecDepth 20000 in
theorem gX5_write_X5_puts : GoodIn wsX5_write (wsV RX5 115 RX5 yX5_puts wsX5_puts) := goodIn_app (goodIn_of _ (by decide +kernel)) ggX5_write_X5_puts
set_option maxRecDepth 20000 in
theorem ggX5_write_X5_dies : GoodIn wsX5_write wsX5_dies := goodIn_r _ [70, 33, 66, 71, 72, 73, 74, 75, 76, 77, 78, 79, 80, 81, 82, 83, 84, 85, 86, 87] (by decide +kernel) (by decide +kernel)
set_option maxRecDepth 20000 in
theorem gX5_write_X5_dies : GoodIn wsX5_write (wsV RX5 119 RX5 yX5_dies wsX5_dies) := goodIn_app (goodIn_of _ (by decide +kernel)) ggX5_write_X5_dies
theorem dX5_write_0 : decode cX5_write 0 = .ok (.aload_n 0, 1) := by decide +kernel
theorem dX5_write_1 : decode cX5_write 1 = .ok (.iload_n 1, 1) := by decide +kernel
theorem dX5_write_2 : decode cX5_write 2 = .ok (.invokevirtual 87, 3) := by decide +kernel
theorem dX5_write_5 : decode cX5_write 5 = .ok (.istore 4, 2) := by decide +kernel
theorem dX5_write_7 : decode cX5_write 7 = .ok (.iload_n 2, 1) := by decide +kernel
theorem dX5_write_8 : decode cX5_write 8 = .ok (.invokestatic 96, 3) := by decide +kernel
theorem dX5_write_11 : decode cX5_write 11 = .ok (.ifCond .eq 18, 3) := by decide +kernel
theorem dX5_write_14 : decode cX5_write 14 = .ok (.iload_n 3, 1) := by decide +kernel
theorem dX5_write_15 : decode cX5_write 15 = .ok (.iconst 0, 1) := by decide +kernel
theorem dX5_write_16 : decode cX5_write 16 = .ok (.sipush 9999, 3) := by decide +kernel
theorem dX5_write_19 : decode cX5_write 19 = .ok (.invokestatic 61, 3) := by decide +kernel
theorem dX5_write_22 : decode cX5_write 22 = .ok (.ifCond .eq 7, 3) := by decide +kernel
theorem dX5_write_25 : decode cX5_write 25 = .ok (.iconst 1, 1) := by decide +kernel
theorem dX5_write_26 : decode cX5_write 26 = .ok (.goto 4, 3) := by decide +kernel
theorem dX5_write_29 : decode cX5_write 29 = .ok (.iconst 0, 1) := by decide +kernel
theorem dX5_write_30 : decode cX5_write 30 = .ok (.istore 5, 2) := by decide +kernel
theorem dX5_write_32 : decode cX5_write 32 = .ok (.iload 4, 2) := by decide +kernel
theorem dX5_write_34 : decode cX5_write 34 = .ok (.ifCond .eq 40, 3) := by decide +kernel
theorem dX5_write_37 : decode cX5_write 37 = .ok (.iload 5, 2) := by decide +kernel
theorem dX5_write_39 : decode cX5_write 39 = .ok (.ifCond .eq 35, 3) := by decide +kernel
theorem dX5_write_42 : decode cX5_write 42 = .ok (.aload_n 0, 1) := by decide +kernel
theorem dX5_write_43 : decode cX5_write 43 = .ok (.iload_n 1, 1) := by decide +kernel
theorem dX5_write_44 : decode cX5_write 44 = .ok (.invokevirtual 68, 3) := by decide +kernel
theorem dX5_write_47 : decode cX5_write 47 = .ok (.ifCond .eq 27, 3) := by decide +kernel
theorem dX5_write_50 : decode cX5_write 50 = .ok (.aload_n 0, 1) := by decide +kernel
theorem dX5_write_51 : decode cX5_write 51 = .ok (.iconst 0, 1) := by decide +kernel
theorem dX5_write_52 : decode cX5_write 52 = .ok (.bipush 32, 2) := by decide +kernel
theorem dX5_write_54 : decode cX5_write 54 = .ok (.invokevirtual 109, 3) := by decide +kernel
theorem dX5_write_57 : decode cX5_write 57 = .ok (.iconst (-1), 1) := by decide +kernel
theorem dX5_write_58 : decode cX5_write 58 = .ok (.if_icmp .eq 16, 3) := by decide +kernel
theorem dX5_write_61 : decode cX5_write 61 = .ok (.aload_n 0, 1) := by decide +kernel
theorem dX5_write_62 : decode cX5_write 62 = .ok (.iload_n 1, 1) := by decide +kernel
theorem dX5_write_63 : decode cX5_write 63 = .ok (.iload_n 2, 1) := by decide +kernel
theorem dX5_write_64 : decode cX5_write 64 = .ok (.invokevirtual 112, 3) := by decide +kernel
theorem dX5_write_67 : decode cX5_write 67 = .ok (.ifCond .ne 7, 3) := by decide +kernel
theorem dX5_write_70 : decode cX5_write 70 = .ok (.iconst 1, 1) := by decide +kernel
theorem dX5_write_71 : decode cX5_write 71 = .ok (.goto 4, 3) := by decide +kernel
theorem dX5_write_74 : decode cX5_write 74 = .ok (.iconst 0, 1) := by decide +kernel
theorem dX5_write_75 : decode cX5_write 75 = .ok (.istore 6, 2) := by decide +kernel
theorem dX5_write_77 : decode cX5_write 77 = .ok (.aload_n 0, 1) := by decide +kernel
theorem dX5_write_78 : decode cX5_write 78 = .ok (.iload 4, 2) := by decide +kernel
theorem dX5_write_80 : decode cX5_write 80 = .ok (.ifCond .ne 7, 3) := by decide +kernel
theorem dX5_write_83 : decode cX5_write 83 = .ok (.iconst 1, 1) := by decide +kernel
theorem dX5_write_84 : decode cX5_write 84 = .ok (.goto 22, 3) := by decide +kernel
theorem dX5_write_87 : decode cX5_write 87 = .ok (.iload 5, 2) := by decide +kernel
theorem dX5_write_89 : decode cX5_write 89 = .ok (.ifCond .ne 7, 3) := by decide +kernel
theorem dX5_write_92 : decode cX5_write 92 = .ok (.iconst 2, 1) := by decide +kernel
theorem dX5_write_93 : decode cX5_write 93 = .ok (.goto 13, 3) := by decide +kernel
theorem dX5_write_96 : decode cX5_write 96 = .ok (.iload 6, 2) := by decide +kernel
theorem dX5_write_98 : decode cX5_write 98 = .ok (.ifCond .ne 7, 3) := by decide +kernel
theorem dX5_write_101 : decode cX5_write 101 = .ok (.iconst 3, 1) := by decide +kernel
theorem dX5_write_102 : decode cX5_write 102 = .ok (.goto 4, 3) := by decide +kernel
theorem dX5_write_105 : decode cX5_write 105 = .ok (.iconst 0, 1) := by decide +kernel
theorem dX5_write_106 : decode cX5_write 106 = .ok (.invokevirtual 84, 3) := by decide +kernel
theorem dX5_write_109 : decode cX5_write 109 = .ok (.ifCond .ne 5, 3) := by decide +kernel
theorem dX5_write_112 : decode cX5_write 112 = .ok (.iconst 0, 1) := by decide +kernel
theorem dX5_write_113 : decode cX5_write 113 = .ok (.ireturn, 1) := by decide +kernel
theorem dX5_write_114 : decode cX5_write 114 = .ok (.aload_n 0, 1) := by decide +kernel
theorem dX5_write_115 : decode cX5_write 115 = .ok (.iload_n 1, 1) := by decide +kernel
theorem dX5_write_116 : decode cX5_write 116 = .ok (.iload_n 2, 1) := by decide +kernel
theorem dX5_write_117 : decode cX5_write 117 = .ok (.invokevirtual 99, 3) := by decide +kernel
theorem dX5_write_120 : decode cX5_write 120 = .ok (.istore 7, 2) := by decide +kernel
theorem dX5_write_122 : decode cX5_write 122 = .ok (.iload 7, 2) := by decide +kernel
theorem dX5_write_124 : decode cX5_write 124 = .ok (.iconst (-1), 1) := by decide +kernel
theorem dX5_write_125 : decode cX5_write 125 = .ok (.if_icmp .ne 7, 3) := by decide +kernel
theorem dX5_write_128 : decode cX5_write 128 = .ok (.iconst 0, 1) := by decide +kernel
theorem dX5_write_129 : decode cX5_write 129 = .ok (.goto 11, 3) := by decide +kernel
theorem dX5_write_132 : decode cX5_write 132 = .ok (.iload 7, 2) := by decide +kernel
theorem dX5_write_134 : decode cX5_write 134 = .ok (.bipush 8, 2) := by decide +kernel
theorem dX5_write_136 : decode cX5_write 136 = .ok (.idiv, 1) := by decide +kernel
theorem dX5_write_137 : decode cX5_write 137 = .ok (.bipush 8, 2) := by decide +kernel
theorem dX5_write_139 : decode cX5_write 139 = .ok (.imul, 1) := by decide +kernel
theorem dX5_write_140 : decode cX5_write 140 = .ok (.istore 8, 2) := by decide +kernel
theorem dX5_write_142 : decode cX5_write 142 = .ok (.iload 7, 2) := by decide +kernel
theorem dX5_write_144 : decode cX5_write 144 = .ok (.iconst (-1), 1) := by decide +kernel
theorem dX5_write_145 : decode cX5_write 145 = .ok (.if_icmp .ne 7, 3) := by decide +kernel
theorem dX5_write_148 : decode cX5_write 148 = .ok (.iconst (-1), 1) := by decide +kernel
theorem dX5_write_149 : decode cX5_write 149 = .ok (.goto 14, 3) := by decide +kernel
theorem dX5_write_152 : decode cX5_write 152 = .ok (.aload_n 0, 1) := by decide +kernel
theorem dX5_write_153 : decode cX5_write 153 = .ok (.iload 8, 2) := by decide +kernel
theorem dX5_write_155 : decode cX5_write 155 = .ok (.iload 8, 2) := by decide +kernel
theorem dX5_write_157 : decode cX5_write 157 = .ok (.bipush 8, 2) := by decide +kernel
theorem dX5_write_159 : decode cX5_write 159 = .ok (.iadd, 1) := by decide +kernel
theorem dX5_write_160 : decode cX5_write 160 = .ok (.invokevirtual 109, 3) := by decide +kernel
theorem dX5_write_163 : decode cX5_write 163 = .ok (.istore 9, 2) := by decide +kernel
theorem dX5_write_165 : decode cX5_write 165 = .ok (.iload 9, 2) := by decide +kernel
theorem dX5_write_167 : decode cX5_write 167 = .ok (.iconst (-1), 1) := by decide +kernel
theorem dX5_write_168 : decode cX5_write 168 = .ok (.if_icmp .ne 13, 3) := by decide +kernel
theorem dX5_write_171 : decode cX5_write 171 = .ok (.aload_n 0, 1) := by decide +kernel
theorem dX5_write_172 : decode cX5_write 172 = .ok (.iconst 0, 1) := by decide +kernel
theorem dX5_write_173 : decode cX5_write 173 = .ok (.bipush 32, 2) := by decide +kernel
theorem dX5_write_175 : decode cX5_write 175 = .ok (.invokevirtual 109, 3) := by decide +kernel
theorem dX5_write_178 : decode cX5_write 178 = .ok (.goto 5, 3) := by decide +kernel
theorem dX5_write_181 : decode cX5_write 181 = .ok (.iload 9, 2) := by decide +kernel
theorem dX5_write_183 : decode cX5_write 183 = .ok (.istore 10, 2) := by decide +kernel
theorem dX5_write_185 : decode cX5_write 185 = .ok (.aload_n 0, 1) := by decide +kernel
theorem dX5_write_186 : decode cX5_write 186 = .ok (.iload_n 1, 1) := by decide +kernel
theorem dX5_write_187 : decode cX5_write 187 = .ok (.iload 10, 2) := by decide +kernel
theorem dX5_write_189 : decode cX5_write 189 = .ok (.iload_n 2, 1) := by decide +kernel
theorem dX5_write_190 : decode cX5_write 190 = .ok (.iload_n 3, 1) := by decide +kernel
theorem dX5_write_191 : decode cX5_write 191 = .ok (.invokevirtual 115, 3) := by decide +kernel
theorem dX5_write_194 : decode cX5_write 194 = .ok (.iload 7, 2) := by decide +kernel
theorem dX5_write_196 : decode cX5_write 196 = .ok (.iconst (-1), 1) := by decide +kernel
theorem dX5_write_197 : decode cX5_write 197 = .ok (.if_icmp .eq 10, 3) := by decide +kernel
theorem dX5_write_200 : decode cX5_write 200 = .ok (.aload_n 0, 1) := by decide +kernel
theorem dX5_write_201 : decode cX5_write 201 = .ok (.iload_n 1, 1) := by decide +kernel
theorem dX5_write_202 : decode cX5_write 202 = .ok (.iload 7, 2) := by decide +kernel
theorem dX5_write_204 : decode cX5_write 204 = .ok (.invokevirtual 119, 3) := by decide +kernel
theorem dX5_write_207 : decode cX5_write 207 = .ok (.iload 9, 2) := by decide +kernel
theorem dX5_write_209 : decode cX5_write 209 = .ok (.iconst (-1), 1) := by decide +kernel
theorem dX5_write_210 : decode cX5_write 210 = .ok (.if_icmp .eq 15, 3) := by decide +kernel
theorem dX5_write_213 : decode cX5_write 213 = .ok (.aload_n 0, 1) := by decide +kernel
theorem dX5_write_214 : decode cX5_write 214 = .ok (.getfield 43, 3) := by decide +kernel
theorem dX5_write_217 : decode cX5_write 217 = .ok (.iload 7, 2) := by decide +kernel
theorem dX5_write_219 : decode cX5_write 219 = .ok (.iload 10, 2) := by decide +kernel
theorem dX5_write_221 : decode cX5_write 221 = .ok (.iastore, 1) := by decide +kernel
theorem dX5_write_222 : decode cX5_write 222 = .ok (.goto 31, 3) := by decide +kernel
theorem dX5_write_225 : decode cX5_write 225 = .ok (.aload_n 0, 1) := by decide +kernel
theorem dX5_write_226 : decode cX5_write 226 = .ok (.getfield 49, 3) := by decide +kernel
theorem dX5_write_229 : decode cX5_write 229 = .ok (.bipush 64, 2) := by decide +kernel
theorem dX5_write_231 : decode cX5_write 231 = .ok (.iload_n 2, 1) := by decide +kernel
theorem dX5_write_232 : decode cX5_write 232 = .ok (.imul, 1) := by decide +kernel
theorem dX5_write_233 : decode cX5_write 233 = .ok (.aload_n 0, 1) := by decide +kernel
theorem dX5_write_234 : decode cX5_write 234 = .ok (.getfield 52, 3) := by decide +kernel
theorem dX5_write_237 : decode cX5_write 237 = .ok (.iload_n 2, 1) := by decide +kernel
theorem dX5_write_238 : decode cX5_write 238 = .ok (.iaload, 1) := by decide +kernel
theorem dX5_write_239 : decode cX5_write 239 = .ok (.iadd, 1) := by decide +kernel
theorem dX5_write_240 : decode cX5_write 240 = .ok (.iload 10, 2) := by decide +kernel
theorem dX5_write_242 : decode cX5_write 242 = .ok (.iastore, 1) := by decide +kernel
theorem dX5_write_243 : decode cX5_write 243 = .ok (.aload_n 0, 1) := by decide +kernel
theorem dX5_write_244 : decode cX5_write 244 = .ok (.getfield 52, 3) := by decide +kernel
theorem dX5_write_247 : decode cX5_write 247 = .ok (.iload_n 2, 1) := by decide +kernel
theorem dX5_write_248 : decode cX5_write 248 = .ok (.dup2, 1) := by decide +kernel
theorem dX5_write_249 : decode cX5_write 249 = .ok (.iaload, 1) := by decide +kernel
theorem dX5_write_250 : decode cX5_write 250 = .ok (.iconst 1, 1) := by decide +kernel
theorem dX5_write_251 : decode cX5_write 251 = .ok (.iadd, 1) := by decide +kernel
theorem dX5_write_252 : decode cX5_write 252 = .ok (.iastore, 1) := by decide +kernel
theorem dX5_write_253 : decode cX5_write 253 = .ok (.sipush 1000, 3) := by decide +kernel
theorem dX5_write_256 : decode cX5_write 256 = .ok (.iload 10, 2) := by decide +kernel
theorem dX5_write_258 : decode cX5_write 258 = .ok (.bipush 8, 2) := by decide +kernel
theorem dX5_write_260 : decode cX5_write 260 = .ok (.idiv, 1) := by decide +kernel
theorem dX5_write_261 : decode cX5_write 261 = .ok (.imul, 1) := by decide +kernel
theorem dX5_write_262 : decode cX5_write 262 = .ok (.iload 10, 2) := by decide +kernel
theorem dX5_write_264 : decode cX5_write 264 = .ok (.bipush 8, 2) := by decide +kernel
theorem dX5_write_266 : decode cX5_write 266 = .ok (.irem, 1) := by decide +kernel
theorem dX5_write_267 : decode cX5_write 267 = .ok (.iadd, 1) := by decide +kernel
theorem dX5_write_268 : decode cX5_write 268 = .ok (.iload 9, 2) := by decide +kernel
theorem dX5_write_270 : decode cX5_write 270 = .ok (.iconst (-1), 1) := by decide +kernel
theorem dX5_write_271 : decode cX5_write 271 = .ok (.if_icmp .ne 7, 3) := by decide +kernel
theorem dX5_write_274 : decode cX5_write 274 = .ok (.iconst 0, 1) := by decide +kernel
theorem dX5_write_275 : decode cX5_write 275 = .ok (.goto 5, 3) := by decide +kernel
theorem dX5_write_278 : decode cX5_write 278 = .ok (.ldc 123, 2) := by decide +kernel
theorem dX5_write_280 : decode cX5_write 280 = .ok (.iadd, 1) := by decide +kernel
theorem dX5_write_281 : decode cX5_write 281 = .ok (.ireturn, 1) := by decide +kernel
set_option maxRecDepth 20000 in
theorem ggX5_delete_X5_isTransaction : GoodIn wsX5_delete wsX5_isTransaction := goodIn_r _ [5, 6, 7, 8, 4, 9, 61, 62, 63, 64, 65, 66, 67, 68, 69, 70, 71, 72, 73, 74, 75, 76, 77] (by decide +kernel) (by decide +kernel)
set_option maxRecDepth 20000 in
theorem gX5_delete_X5_isTransaction : GoodIn wsX5_delete (wsV RX5 87 RX5 yX5_isTransaction wsX5_isTransaction) := goodIn_app (goodIn_of _ (by decide +kernel)) ggX5_delete_X5_isTransaction
set_option maxRecDepth 20000 in
theorem ggX5_delete_X5_isKey : GoodIn wsX5_delete wsX5_isKey := goodIn_r _ [12, 7, 8, 4, 9] (by decide +kernel) (by decide +kernel)
set_option maxRecDepth 20000 in
theorem gX5_delete_X5_isKey : GoodIn wsX5_delete (va_wsS RX5 96 yX5_isKey wsX5_isKey) := goodIn_app (goodIn_of _ (by decide +kernel)) ggX5_delete_X5_isKey
set_option maxRecDepth 20000 in
theorem ggX5_delete_X5_isActive : GoodIn wsX5_delete wsX5_isActive := goodIn_r _ [16, 17, 61, 62, 63, 64, 65, 66, 67, 68, 69, 70, 71, 72, 73, 74, 75, 76, 77] (by decide +kernel) (by decide +kernel)
set_option maxRecDepth 20000 in
theorem gX5_delete_X5_isActive : GoodIn wsX5_delete (wsV RX5 68 RX5 yX5_isActive wsX5_isActive) := goodIn_app (goodIn_of _ (by decide +kernel)) ggX5_delete_X5_isActive
set_option maxRecDepth 20000 in
theorem ggX5_delete_X5_seen : GoodIn wsX5_delete wsX5_seen := goodIn_r _ [21, 22, 23, 24, 25, 26, 27, 4, 28, 29, 30, 31, 32, 33, 34, 35, 36, 37, 38, 39, 40, 61, 62, 63, 64, 65, 66, 67, 68, 69, 70, 71, 72, 73, 74, 75, 76, 77] (by decide +kernel) (by decide +kernel)
set_option maxRecDepth 20000 in
theorem gX5_delete_X5_seen : GoodIn wsX5_delete (wsV RX5 99 RX5 yX5_seen wsX5_seen) := goodIn_app (goodIn_of _ (by decide +kernel)) ggX5_delete_X5_seen
set_option maxRecDepth 20000 in
theorem ggX5_delete_X5_isRefused : GoodIn wsX5_delete wsX5_isRefused := goodIn_r _ [44, 45, 46, 30, 31, 47, 48, 49, 4, 50, 17, 13, 14, 15, 16, 36, 37, 38, 39, 40, 61, 62, 63, 64, 65, 66, 67, 68, 69, 70, 71, 72, 73, 74, 75, 76, 77] (by decide +kernel) (by decide +kernel)
set_option maxRecDepth 20000 in
theorem gX5_delete_X5_isRefused : GoodIn wsX5_delete (wsV RX5 112 RX5 yX5_isRefused wsX5_isRefused) := goodIn_app (goodIn_of _ (by decide +kernel)) ggX5_delete_X5_isRefused
set_option maxRecDepth 20000 in
theorem ggX5_delete_X5_isFine : GoodIn wsX5_delete wsX5_isFine := goodIn_r _ [54, 55, 61, 62, 63, 64, 65, 66, 67, 68, 69, 70, 71, 72, 73, 74, 75, 76, 77] (by decide +kernel) (by decide +kernel)
set_option maxRecDepth 20000 in
theorem gX5_delete_X5_isFine : GoodIn wsX5_delete (wsV RX5 84 RX5 yX5_isFine wsX5_isFine) := goodIn_app (goodIn_of _ (by decide +kernel)) ggX5_delete_X5_isFine
set_option maxRecDepth 20000 in
theorem ggX5_delete_X5_dies : GoodIn wsX5_delete wsX5_dies := goodIn_r _ [59, 31, 60, 61, 62, 63, 64, 65, 66, 67, 68, 69, 70, 71, 72, 73, 74, 75, 76, 77] (by decide +kernel) (by decide +kernel)
set_option maxRecDepth 20000 in
theorem gX5_delete_X5_dies : GoodIn wsX5_delete (wsV RX5 119 RX5 yX5_dies wsX5_dies) := goodIn_app (goodIn_of _ (by decide +kernel)) ggX5_delete_X5_dies
theorem dX5_delete_0 : decode cX5_delete 0 = .ok (.aload_n 0, 1) := by decide +kernel
theorem dX5_delete_1 : decode cX5_delete 1 = .ok (.iload_n 1, 1) := by decide +kernel
theorem dX5_delete_2 : decode cX5_delete 2 = .ok (.invokevirtual 87, 3) := by decide +kernel
theorem dX5_delete_5 : decode cX5_delete 5 = .ok (.istore_n 3, 1) := by decide +kernel
theorem dX5_delete_6 : decode cX5_delete 6 = .ok (.iload_n 2, 1) := by decide +kernel
theorem dX5_delete_7 : decode cX5_delete 7 = .ok (.invokestatic 96, 3) := by decide +kernel
theorem dX5_delete_10 : decode cX5_delete 10 = .ok (.istore 4, 2) := by decide +kernel
theorem dX5_delete_12 : decode cX5_delete 12 = .ok (.iload_n 3, 1) := by decide +kernel
theorem dX5_delete_13 : decode cX5_delete 13 = .ok (.ifCond .eq 25, 3) := by decide +kernel
theorem dX5_delete_16 : decode cX5_delete 16 = .ok (.iload 4, 2) := by decide +kernel
theorem dX5_delete_18 : decode cX5_delete 18 = .ok (.ifCond .eq 20, 3) := by decide +kernel
theorem dX5_delete_21 : decode cX5_delete 21 = .ok (.aload_n 0, 1) := by decide +kernel
theorem dX5_delete_22 : decode cX5_delete 22 = .ok (.iload_n 1, 1) := by decide +kernel
theorem dX5_delete_23 : decode cX5_delete 23 = .ok (.invokevirtual 68, 3) := by decide +kernel
theorem dX5_delete_26 : decode cX5_delete 26 = .ok (.ifCond .eq 12, 3) := by decide +kernel
theorem dX5_delete_29 : decode cX5_delete 29 = .ok (.aload_n 0, 1) := by decide +kernel
theorem dX5_delete_30 : decode cX5_delete 30 = .ok (.iload_n 1, 1) := by decide +kernel
theorem dX5_delete_31 : decode cX5_delete 31 = .ok (.iload_n 2, 1) := by decide +kernel
theorem dX5_delete_32 : decode cX5_delete 32 = .ok (.invokevirtual 99, 3) := by decide +kernel
theorem dX5_delete_35 : decode cX5_delete 35 = .ok (.goto 4, 3) := by decide +kernel
theorem dX5_delete_38 : decode cX5_delete 38 = .ok (.iconst (-1), 1) := by decide +kernel
theorem dX5_delete_39 : decode cX5_delete 39 = .ok (.istore 5, 2) := by decide +kernel
theorem dX5_delete_41 : decode cX5_delete 41 = .ok (.iload 5, 2) := by decide +kernel
theorem dX5_delete_43 : decode cX5_delete 43 = .ok (.iconst (-1), 1) := by decide +kernel
theorem dX5_delete_44 : decode cX5_delete 44 = .ok (.if_icmp .eq 16, 3) := by decide +kernel
theorem dX5_delete_47 : decode cX5_delete 47 = .ok (.aload_n 0, 1) := by decide +kernel
theorem dX5_delete_48 : decode cX5_delete 48 = .ok (.iload_n 1, 1) := by decide +kernel
theorem dX5_delete_49 : decode cX5_delete 49 = .ok (.iload_n 2, 1) := by decide +kernel
theorem dX5_delete_50 : decode cX5_delete 50 = .ok (.invokevirtual 112, 3) := by decide +kernel
theorem dX5_delete_53 : decode cX5_delete 53 = .ok (.ifCond .eq 7, 3) := by decide +kernel
theorem dX5_delete_56 : decode cX5_delete 56 = .ok (.iconst 1, 1) := by decide +kernel
theorem dX5_delete_57 : decode cX5_delete 57 = .ok (.goto 4, 3) := by decide +kernel
theorem dX5_delete_60 : decode cX5_delete 60 = .ok (.iconst 0, 1) := by decide +kernel
theorem dX5_delete_61 : decode cX5_delete 61 = .ok (.istore 6, 2) := by decide +kernel
theorem dX5_delete_63 : decode cX5_delete 63 = .ok (.aload_n 0, 1) := by decide +kernel
theorem dX5_delete_64 : decode cX5_delete 64 = .ok (.iload_n 3, 1) := by decide +kernel
theorem dX5_delete_65 : decode cX5_delete 65 = .ok (.ifCond .ne 7, 3) := by decide +kernel
theorem dX5_delete_68 : decode cX5_delete 68 = .ok (.iconst 1, 1) := by decide +kernel
theorem dX5_delete_69 : decode cX5_delete 69 = .ok (.goto 30, 3) := by decide +kernel
theorem dX5_delete_72 : decode cX5_delete 72 = .ok (.iload 4, 2) := by decide +kernel
theorem dX5_delete_74 : decode cX5_delete 74 = .ok (.ifCond .ne 7, 3) := by decide +kernel
theorem dX5_delete_77 : decode cX5_delete 77 = .ok (.iconst 2, 1) := by decide +kernel
theorem dX5_delete_78 : decode cX5_delete 78 = .ok (.goto 21, 3) := by decide +kernel
theorem dX5_delete_81 : decode cX5_delete 81 = .ok (.aload_n 0, 1) := by decide +kernel
theorem dX5_delete_82 : decode cX5_delete 82 = .ok (.iload_n 1, 1) := by decide +kernel
theorem dX5_delete_83 : decode cX5_delete 83 = .ok (.invokevirtual 68, 3) := by decide +kernel
theorem dX5_delete_86 : decode cX5_delete 86 = .ok (.ifCond .eq 8, 3) := by decide +kernel
theorem dX5_delete_89 : decode cX5_delete 89 = .ok (.iload 6, 2) := by decide +kernel
theorem dX5_delete_91 : decode cX5_delete 91 = .ok (.ifCond .eq 7, 3) := by decide +kernel
theorem dX5_delete_94 : decode cX5_delete 94 = .ok (.iconst 3, 1) := by decide +kernel
theorem dX5_delete_95 : decode cX5_delete 95 = .ok (.goto 4, 3) := by decide +kernel
theorem dX5_delete_98 : decode cX5_delete 98 = .ok (.iconst 0, 1) := by decide +kernel
theorem dX5_delete_99 : decode cX5_delete 99 = .ok (.invokevirtual 84, 3) := by decide +kernel
theorem dX5_delete_102 : decode cX5_delete 102 = .ok (.ifCond .eq 9, 3) := by decide +kernel
theorem dX5_delete_105 : decode cX5_delete 105 = .ok (.iload 5, 2) := by decide +kernel
theorem dX5_delete_107 : decode cX5_delete 107 = .ok (.iconst (-1), 1) := by decide +kernel
theorem dX5_delete_108 : decode cX5_delete 108 = .ok (.if_icmp .ne 5, 3) := by decide +kernel
theorem dX5_delete_111 : decode cX5_delete 111 = .ok (.iconst 0, 1) := by decide +kernel
theorem dX5_delete_112 : decode cX5_delete 112 = .ok (.ireturn, 1) := by decide +kernel
theorem dX5_delete_113 : decode cX5_delete 113 = .ok (.aload_n 0, 1) := by decide +kernel
theorem dX5_delete_114 : decode cX5_delete 114 = .ok (.iload_n 1, 1) := by decide +kernel
theorem dX5_delete_115 : decode cX5_delete 115 = .ok (.iload 5, 2) := by decide +kernel
theorem dX5_delete_117 : decode cX5_delete 117 = .ok (.invokevirtual 119, 3) := by decide +kernel
theorem dX5_delete_120 : decode cX5_delete 120 = .ok (.iconst 1, 1) := by decide +kernel
theorem dX5_delete_121 : decode cX5_delete 121 = .ok (.ireturn, 1) := by decide +kernel
set_option maxRecDepth 20000 in
theorem ggX5_canGo_X5_isPast : GoodIn wsX5_canGo wsX5_isPast := goodIn_r _ [9, 2, 10, 11, 12, 13, 8, 14, 15, 16, 17, 18, 19, 20, 21, 22, 23, 24, 25, 26, 27, 28, 29, 30, 31, 32, 33, 34, 35, 36] (by decide +kernel) (by decide +kernel)
set_option maxRecDepth 20000 in
theorem gX5_canGo_X5_isPast : GoodIn wsX5_canGo (wsV RX5 124 RX5 yX5_isPast wsX5_isPast) := goodIn_app (goodIn_of _ (by decide +kernel)) ggX5_canGo_X5_isPast
theorem dX5_canGo_0 : decode cX5_canGo 0 = .ok (.aload_n 0, 1) := by decide +kernel
theorem dX5_canGo_1 : decode cX5_canGo 1 = .ok (.getfield 24, 3) := by decide +kernel
theorem dX5_canGo_4 : decode cX5_canGo 4 = .ok (.iload_n 1, 1) := by decide +kernel
theorem dX5_canGo_5 : decode cX5_canGo 5 = .ok (.baload, 1) := by decide +kernel
theorem dX5_canGo_6 : decode cX5_canGo 6 = .ok (.ifCond .eq 45, 3) := by decide +kernel
theorem dX5_canGo_9 : decode cX5_canGo 9 = .ok (.aload_n 0, 1) := by decide +kernel
theorem dX5_canGo_10 : decode cX5_canGo 10 = .ok (.getfield 17, 3) := by decide +kernel
theorem dX5_canGo_13 : decode cX5_canGo 13 = .ok (.aload_n 0, 1) := by decide +kernel
theorem dX5_canGo_14 : decode cX5_canGo 14 = .ok (.getfield 34, 3) := by decide +kernel
theorem dX5_canGo_17 : decode cX5_canGo 17 = .ok (.iload_n 1, 1) := by decide +kernel
theorem dX5_canGo_18 : decode cX5_canGo 18 = .ok (.iaload, 1) := by decide +kernel
theorem dX5_canGo_19 : decode cX5_canGo 19 = .ok (.iaload, 1) := by decide +kernel
theorem dX5_canGo_20 : decode cX5_canGo 20 = .ok (.iconst 2, 1) := by decide +kernel
theorem dX5_canGo_21 : decode cX5_canGo 21 = .ok (.if_icmp .eq 26, 3) := by decide +kernel
theorem dX5_canGo_24 : decode cX5_canGo 24 = .ok (.aload_n 0, 1) := by decide +kernel
theorem dX5_canGo_25 : decode cX5_canGo 25 = .ok (.getfield 40, 3) := by decide +kernel
theorem dX5_canGo_28 : decode cX5_canGo 28 = .ok (.iload_n 1, 1) := by decide +kernel
theorem dX5_canGo_29 : decode cX5_canGo 29 = .ok (.iaload, 1) := by decide +kernel
theorem dX5_canGo_30 : decode cX5_canGo 30 = .ok (.iconst (-1), 1) := by decide +kernel
theorem dX5_canGo_31 : decode cX5_canGo 31 = .ok (.if_icmp .eq 20, 3) := by decide +kernel
theorem dX5_canGo_34 : decode cX5_canGo 34 = .ok (.aload_n 0, 1) := by decide +kernel
theorem dX5_canGo_35 : decode cX5_canGo 35 = .ok (.aload_n 0, 1) := by decide +kernel
theorem dX5_canGo_36 : decode cX5_canGo 36 = .ok (.getfield 40, 3) := by decide +kernel
theorem dX5_canGo_39 : decode cX5_canGo 39 = .ok (.iload_n 1, 1) := by decide +kernel
theorem dX5_canGo_40 : decode cX5_canGo 40 = .ok (.iaload, 1) := by decide +kernel
theorem dX5_canGo_41 : decode cX5_canGo 41 = .ok (.invokevirtual 124, 3) := by decide +kernel
theorem dX5_canGo_44 : decode cX5_canGo 44 = .ok (.ifCond .eq 7, 3) := by decide +kernel
theorem dX5_canGo_47 : decode cX5_canGo 47 = .ok (.iconst 1, 1) := by decide +kernel
theorem dX5_canGo_48 : decode cX5_canGo 48 = .ok (.goto 4, 3) := by decide +kernel
theorem dX5_canGo_51 : decode cX5_canGo 51 = .ok (.iconst 0, 1) := by decide +kernel
theorem dX5_canGo_52 : decode cX5_canGo 52 = .ok (.ireturn, 1) := by decide +kernel
theorem dX5_leaves_0 : decode cX5_leaves 0 = .ok (.iconst 0, 1) := by decide +kernel
theorem dX5_leaves_1 : decode cX5_leaves 1 = .ok (.istore_n 2, 1) := by decide +kernel
theorem dX5_leaves_2 : decode cX5_leaves 2 = .ok (.iload_n 2, 1) := by decide +kernel
theorem dX5_leaves_3 : decode cX5_leaves 3 = .ok (.bipush 32, 2) := by decide +kernel
theorem dX5_leaves_5 : decode cX5_leaves 5 = .ok (.if_icmp .ge 49, 3) := by decide +kernel
theorem dX5_leaves_8 : decode cX5_leaves 8 = .ok (.aload_n 0, 1) := by decide +kernel
theorem dX5_leaves_9 : decode cX5_leaves 9 = .ok (.getfield 43, 3) := by decide +kernel
theorem dX5_leaves_12 : decode cX5_leaves 12 = .ok (.iload_n 2, 1) := by decide +kernel
theorem dX5_leaves_13 : decode cX5_leaves 13 = .ok (.aload_n 0, 1) := by decide +kernel
theorem dX5_leaves_14 : decode cX5_leaves 14 = .ok (.getfield 24, 3) := by decide +kernel
theorem dX5_leaves_17 : decode cX5_leaves 17 = .ok (.iload_n 2, 1) := by decide +kernel
theorem dX5_leaves_18 : decode cX5_leaves 18 = .ok (.baload, 1) := by decide +kernel
theorem dX5_leaves_19 : decode cX5_leaves 19 = .ok (.ifCond .eq 22, 3) := by decide +kernel
theorem dX5_leaves_22 : decode cX5_leaves 22 = .ok (.aload_n 0, 1) := by decide +kernel
theorem dX5_leaves_23 : decode cX5_leaves 23 = .ok (.getfield 43, 3) := by decide +kernel
theorem dX5_leaves_26 : decode cX5_leaves 26 = .ok (.iload_n 2, 1) := by decide +kernel
theorem dX5_leaves_27 : decode cX5_leaves 27 = .ok (.iaload, 1) := by decide +kernel
theorem dX5_leaves_28 : decode cX5_leaves 28 = .ok (.iload_n 1, 1) := by decide +kernel
theorem dX5_leaves_29 : decode cX5_leaves 29 = .ok (.if_icmp .ne 12, 3) := by decide +kernel
theorem dX5_leaves_32 : decode cX5_leaves 32 = .ok (.aload_n 0, 1) := by decide +kernel
theorem dX5_leaves_33 : decode cX5_leaves 33 = .ok (.getfield 43, 3) := by decide +kernel
theorem dX5_leaves_36 : decode cX5_leaves 36 = .ok (.iload_n 1, 1) := by decide +kernel
theorem dX5_leaves_37 : decode cX5_leaves 37 = .ok (.iaload, 1) := by decide +kernel
theorem dX5_leaves_38 : decode cX5_leaves 38 = .ok (.goto 9, 3) := by decide +kernel
theorem dX5_leaves_41 : decode cX5_leaves 41 = .ok (.aload_n 0, 1) := by decide +kernel
theorem dX5_leaves_42 : decode cX5_leaves 42 = .ok (.getfield 43, 3) := by decide +kernel
theorem dX5_leaves_45 : decode cX5_leaves 45 = .ok (.iload_n 2, 1) := by decide +kernel
theorem dX5_leaves_46 : decode cX5_leaves 46 = .ok (.iaload, 1) := by decide +kernel
theorem dX5_leaves_47 : decode cX5_leaves 47 = .ok (.iastore, 1) := by decide +kernel
theorem dX5_leaves_48 : decode cX5_leaves 48 = .ok (.iinc 2 1, 3) := by decide +kernel
theorem dX5_leaves_51 : decode cX5_leaves 51 = .ok (.goto (-49), 3) := by decide +kernel
theorem dX5_leaves_54 : decode cX5_leaves 54 = .ok (.aload_n 0, 1) := by decide +kernel
theorem dX5_leaves_55 : decode cX5_leaves 55 = .ok (.getfield 28, 3) := by decide +kernel
theorem dX5_leaves_58 : decode cX5_leaves 58 = .ok (.iload_n 1, 1) := by decide +kernel
theorem dX5_leaves_59 : decode cX5_leaves 59 = .ok (.iaload, 1) := by decide +kernel
theorem dX5_leaves_60 : decode cX5_leaves 60 = .ok (.istore_n 2, 1) := by decide +kernel
theorem dX5_leaves_61 : decode cX5_leaves 61 = .ok (.aload_n 0, 1) := by decide +kernel
theorem dX5_leaves_62 : decode cX5_leaves 62 = .ok (.getfield 52, 3) := by decide +kernel
theorem dX5_leaves_65 : decode cX5_leaves 65 = .ok (.iload_n 2, 1) := by decide +kernel
theorem dX5_leaves_66 : decode cX5_leaves 66 = .ok (.iaload, 1) := by decide +kernel
theorem dX5_leaves_67 : decode cX5_leaves 67 = .ok (.iconst 1, 1) := by decide +kernel
theorem dX5_leaves_68 : decode cX5_leaves 68 = .ok (.isub, 1) := by decide +kernel
theorem dX5_leaves_69 : decode cX5_leaves 69 = .ok (.istore_n 3, 1) := by decide +kernel
theorem dX5_leaves_70 : decode cX5_leaves 70 = .ok (.iload_n 3, 1) := by decide +kernel
theorem dX5_leaves_71 : decode cX5_leaves 71 = .ok (.ifCond .lt 114, 3) := by decide +kernel
theorem dX5_leaves_74 : decode cX5_leaves 74 = .ok (.aload_n 0, 1) := by decide +kernel
theorem dX5_leaves_75 : decode cX5_leaves 75 = .ok (.getfield 49, 3) := by decide +kernel
theorem dX5_leaves_78 : decode cX5_leaves 78 = .ok (.bipush 64, 2) := by decide +kernel
theorem dX5_leaves_80 : decode cX5_leaves 80 = .ok (.iload_n 2, 1) := by decide +kernel
theorem dX5_leaves_81 : decode cX5_leaves 81 = .ok (.imul, 1) := by decide +kernel
theorem dX5_leaves_82 : decode cX5_leaves 82 = .ok (.iload_n 3, 1) := by decide +kernel
theorem dX5_leaves_83 : decode cX5_leaves 83 = .ok (.iadd, 1) := by decide +kernel
theorem dX5_leaves_84 : decode cX5_leaves 84 = .ok (.iaload, 1) := by decide +kernel
theorem dX5_leaves_85 : decode cX5_leaves 85 = .ok (.iload_n 1, 1) := by decide +kernel
theorem dX5_leaves_86 : decode cX5_leaves 86 = .ok (.if_icmp .ne 20, 3) := by decide +kernel
theorem dX5_leaves_89 : decode cX5_leaves 89 = .ok (.aload_n 0, 1) := by decide +kernel
theorem dX5_leaves_90 : decode cX5_leaves 90 = .ok (.getfield 49, 3) := by decide +kernel
theorem dX5_leaves_93 : decode cX5_leaves 93 = .ok (.bipush 64, 2) := by decide +kernel
theorem dX5_leaves_95 : decode cX5_leaves 95 = .ok (.iload_n 2, 1) := by decide +kernel
theorem dX5_leaves_96 : decode cX5_leaves 96 = .ok (.imul, 1) := by decide +kernel
theorem dX5_leaves_97 : decode cX5_leaves 97 = .ok (.iload_n 3, 1) := by decide +kernel
theorem dX5_leaves_98 : decode cX5_leaves 98 = .ok (.iadd, 1) := by decide +kernel
theorem dX5_leaves_99 : decode cX5_leaves 99 = .ok (.aload_n 0, 1) := by decide +kernel
theorem dX5_leaves_100 : decode cX5_leaves 100 = .ok (.getfield 43, 3) := by decide +kernel
theorem dX5_leaves_103 : decode cX5_leaves 103 = .ok (.iload_n 1, 1) := by decide +kernel
theorem dX5_leaves_104 : decode cX5_leaves 104 = .ok (.iaload, 1) := by decide +kernel
theorem dX5_leaves_105 : decode cX5_leaves 105 = .ok (.iastore, 1) := by decide +kernel
theorem dX5_leaves_106 : decode cX5_leaves 106 = .ok (.aload_n 0, 1) := by decide +kernel
theorem dX5_leaves_107 : decode cX5_leaves 107 = .ok (.getfield 49, 3) := by decide +kernel
theorem dX5_leaves_110 : decode cX5_leaves 110 = .ok (.bipush 64, 2) := by decide +kernel
theorem dX5_leaves_112 : decode cX5_leaves 112 = .ok (.iload_n 2, 1) := by decide +kernel
theorem dX5_leaves_113 : decode cX5_leaves 113 = .ok (.imul, 1) := by decide +kernel
theorem dX5_leaves_114 : decode cX5_leaves 114 = .ok (.iload_n 3, 1) := by decide +kernel
theorem dX5_leaves_115 : decode cX5_leaves 115 = .ok (.iadd, 1) := by decide +kernel
theorem dX5_leaves_116 : decode cX5_leaves 116 = .ok (.iaload, 1) := by decide +kernel
theorem dX5_leaves_117 : decode cX5_leaves 117 = .ok (.iconst (-1), 1) := by decide +kernel
theorem dX5_leaves_118 : decode cX5_leaves 118 = .ok (.if_icmp .ne 61, 3) := by decide +kernel
theorem dX5_leaves_121 : decode cX5_leaves 121 = .ok (.iload_n 3, 1) := by decide +kernel
theorem dX5_leaves_122 : decode cX5_leaves 122 = .ok (.istore 4, 2) := by decide +kernel
theorem dX5_leaves_124 : decode cX5_leaves 124 = .ok (.iload 4, 2) := by decide +kernel
theorem dX5_leaves_126 : decode cX5_leaves 126 = .ok (.iconst 1, 1) := by decide +kernel
theorem dX5_leaves_127 : decode cX5_leaves 127 = .ok (.iadd, 1) := by decide +kernel
theorem dX5_leaves_128 : decode cX5_leaves 128 = .ok (.aload_n 0, 1) := by decide +kernel
theorem dX5_leaves_129 : decode cX5_leaves 129 = .ok (.getfield 52, 3) := by decide +kernel
theorem dX5_leaves_132 : decode cX5_leaves 132 = .ok (.iload_n 2, 1) := by decide +kernel
theorem dX5_leaves_133 : decode cX5_leaves 133 = .ok (.iaload, 1) := by decide +kernel
theorem dX5_leaves_134 : decode cX5_leaves 134 = .ok (.if_icmp .ge 35, 3) := by decide +kernel
theorem dX5_leaves_137 : decode cX5_leaves 137 = .ok (.aload_n 0, 1) := by decide +kernel
theorem dX5_leaves_138 : decode cX5_leaves 138 = .ok (.getfield 49, 3) := by decide +kernel
theorem dX5_leaves_141 : decode cX5_leaves 141 = .ok (.bipush 64, 2) := by decide +kernel
theorem dX5_leaves_143 : decode cX5_leaves 143 = .ok (.iload_n 2, 1) := by decide +kernel
theorem dX5_leaves_144 : decode cX5_leaves 144 = .ok (.imul, 1) := by decide +kernel
theorem dX5_leaves_145 : decode cX5_leaves 145 = .ok (.iload 4, 2) := by decide +kernel
theorem dX5_leaves_147 : decode cX5_leaves 147 = .ok (.iadd, 1) := by decide +kernel
theorem dX5_leaves_148 : decode cX5_leaves 148 = .ok (.aload_n 0, 1) := by decide +kernel
theorem dX5_leaves_149 : decode cX5_leaves 149 = .ok (.getfield 49, 3) := by decide +kernel
theorem dX5_leaves_152 : decode cX5_leaves 152 = .ok (.bipush 64, 2) := by decide +kernel
theorem dX5_leaves_154 : decode cX5_leaves 154 = .ok (.iload_n 2, 1) := by decide +kernel
theorem dX5_leaves_155 : decode cX5_leaves 155 = .ok (.imul, 1) := by decide +kernel
theorem dX5_leaves_156 : decode cX5_leaves 156 = .ok (.iload 4, 2) := by decide +kernel
theorem dX5_leaves_158 : decode cX5_leaves 158 = .ok (.iadd, 1) := by decide +kernel
theorem dX5_leaves_159 : decode cX5_leaves 159 = .ok (.iconst 1, 1) := by decide +kernel
theorem dX5_leaves_160 : decode cX5_leaves 160 = .ok (.iadd, 1) := by decide +kernel
theorem dX5_leaves_161 : decode cX5_leaves 161 = .ok (.iaload, 1) := by decide +kernel
theorem dX5_leaves_162 : decode cX5_leaves 162 = .ok (.iastore, 1) := by decide +kernel
theorem dX5_leaves_163 : decode cX5_leaves 163 = .ok (.iinc 4 1, 3) := by decide +kernel
theorem dX5_leaves_166 : decode cX5_leaves 166 = .ok (.goto (-42), 3) := by decide +kernel
theorem dX5_leaves_169 : decode cX5_leaves 169 = .ok (.aload_n 0, 1) := by decide +kernel
theorem dX5_leaves_170 : decode cX5_leaves 170 = .ok (.getfield 52, 3) := by decide +kernel
theorem dX5_leaves_173 : decode cX5_leaves 173 = .ok (.iload_n 2, 1) := by decide +kernel
theorem dX5_leaves_174 : decode cX5_leaves 174 = .ok (.dup2, 1) := by decide +kernel
theorem dX5_leaves_175 : decode cX5_leaves 175 = .ok (.iaload, 1) := by decide +kernel
theorem dX5_leaves_176 : decode cX5_leaves 176 = .ok (.iconst 1, 1) := by decide +kernel
theorem dX5_leaves_177 : decode cX5_leaves 177 = .ok (.isub, 1) := by decide +kernel
theorem dX5_leaves_178 : decode cX5_leaves 178 = .ok (.iastore, 1) := by decide +kernel
theorem dX5_leaves_179 : decode cX5_leaves 179 = .ok (.iinc 3 (-1), 3) := by decide +kernel
theorem dX5_leaves_182 : decode cX5_leaves 182 = .ok (.goto (-112), 3) := by decide +kernel
theorem dX5_leaves_185 : decode cX5_leaves 185 = .ok (.aload_n 0, 1) := by decide +kernel
theorem dX5_leaves_186 : decode cX5_leaves 186 = .ok (.getfield 24, 3) := by decide +kernel
theorem dX5_leaves_189 : decode cX5_leaves 189 = .ok (.iload_n 1, 1) := by decide +kernel
theorem dX5_leaves_190 : decode cX5_leaves 190 = .ok (.iconst 0, 1) := by decide +kernel
theorem dX5_leaves_191 : decode cX5_leaves 191 = .ok (.bastore, 1) := by decide +kernel
theorem dX5_leaves_192 : decode cX5_leaves 192 = .ok (.return_, 1) := by decide +kernel
set_option maxRecDepth 20000 in
theorem ggX5_isWholeNow_X5_isPast : GoodIn wsX5_isWholeNow wsX5_isPast := goodIn_r _ [9, 10, 11, 12, 13, 14, 8, 15, 16, 17, 18, 19, 20, 21, 22, 23, 24, 25, 26, 27, 28, 29, 30, 31, 32, 33, 34, 35, 36, 37] (by decide +kernel) (by decide +kernel)
set_option maxRecDepth 20000 in
theorem gX5_isWholeNow_X5_isPast : GoodIn wsX5_isWholeNow (wsV RX5 124 RX5 yX5_isPast wsX5_isPast) := goodIn_app (goodIn_of _ (by decide +kernel)) ggX5_isWholeNow_X5_isPast
theorem dX5_isWholeNow_0 : decode cX5_isWholeNow 0 = .ok (.iconst 1, 1) := by decide +kernel
theorem dX5_isWholeNow_1 : decode cX5_isWholeNow 1 = .ok (.istore_n 2, 1) := by decide +kernel
theorem dX5_isWholeNow_2 : decode cX5_isWholeNow 2 = .ok (.bipush 8, 2) := by decide +kernel
theorem dX5_isWholeNow_4 : decode cX5_isWholeNow 4 = .ok (.iload_n 1, 1) := by decide +kernel
theorem dX5_isWholeNow_5 : decode cX5_isWholeNow 5 = .ok (.imul, 1) := by decide +kernel
theorem dX5_isWholeNow_6 : decode cX5_isWholeNow 6 = .ok (.istore_n 3, 1) := by decide +kernel
theorem dX5_isWholeNow_7 : decode cX5_isWholeNow 7 = .ok (.iload_n 3, 1) := by decide +kernel
theorem dX5_isWholeNow_8 : decode cX5_isWholeNow 8 = .ok (.bipush 8, 2) := by decide +kernel
theorem dX5_isWholeNow_10 : decode cX5_isWholeNow 10 = .ok (.iload_n 1, 1) := by decide +kernel
theorem dX5_isWholeNow_11 : decode cX5_isWholeNow 11 = .ok (.imul, 1) := by decide +kernel
theorem dX5_isWholeNow_12 : decode cX5_isWholeNow 12 = .ok (.bipush 8, 2) := by decide +kernel
theorem dX5_isWholeNow_14 : decode cX5_isWholeNow 14 = .ok (.iadd, 1) := by decide +kernel
theorem dX5_isWholeNow_15 : decode cX5_isWholeNow 15 = .ok (.if_icmp .ge 60, 3) := by decide +kernel
theorem dX5_isWholeNow_18 : decode cX5_isWholeNow 18 = .ok (.iload_n 2, 1) := by decide +kernel
theorem dX5_isWholeNow_19 : decode cX5_isWholeNow 19 = .ok (.ifCond .eq 48, 3) := by decide +kernel
theorem dX5_isWholeNow_22 : decode cX5_isWholeNow 22 = .ok (.aload_n 0, 1) := by decide +kernel
theorem dX5_isWholeNow_23 : decode cX5_isWholeNow 23 = .ok (.getfield 24, 3) := by decide +kernel
theorem dX5_isWholeNow_26 : decode cX5_isWholeNow 26 = .ok (.iload_n 3, 1) := by decide +kernel
theorem dX5_isWholeNow_27 : decode cX5_isWholeNow 27 = .ok (.baload, 1) := by decide +kernel
theorem dX5_isWholeNow_28 : decode cX5_isWholeNow 28 = .ok (.ifCond .eq 35, 3) := by decide +kernel
theorem dX5_isWholeNow_31 : decode cX5_isWholeNow 31 = .ok (.aload_n 0, 1) := by decide +kernel
theorem dX5_isWholeNow_32 : decode cX5_isWholeNow 32 = .ok (.getfield 40, 3) := by decide +kernel
theorem dX5_isWholeNow_35 : decode cX5_isWholeNow 35 = .ok (.iload_n 3, 1) := by decide +kernel
theorem dX5_isWholeNow_36 : decode cX5_isWholeNow 36 = .ok (.iaload, 1) := by decide +kernel
theorem dX5_isWholeNow_37 : decode cX5_isWholeNow 37 = .ok (.iconst (-1), 1) := by decide +kernel
theorem dX5_isWholeNow_38 : decode cX5_isWholeNow 38 = .ok (.if_icmp .ne 29, 3) := by decide +kernel
theorem dX5_isWholeNow_41 : decode cX5_isWholeNow 41 = .ok (.aload_n 0, 1) := by decide +kernel
theorem dX5_isWholeNow_42 : decode cX5_isWholeNow 42 = .ok (.getfield 37, 3) := by decide +kernel
theorem dX5_isWholeNow_45 : decode cX5_isWholeNow 45 = .ok (.iload_n 3, 1) := by decide +kernel
theorem dX5_isWholeNow_46 : decode cX5_isWholeNow 46 = .ok (.baload, 1) := by decide +kernel
theorem dX5_isWholeNow_47 : decode cX5_isWholeNow 47 = .ok (.ifCond .ne 16, 3) := by decide +kernel
theorem dX5_isWholeNow_50 : decode cX5_isWholeNow 50 = .ok (.aload_n 0, 1) := by decide +kernel
theorem dX5_isWholeNow_51 : decode cX5_isWholeNow 51 = .ok (.aload_n 0, 1) := by decide +kernel
theorem dX5_isWholeNow_52 : decode cX5_isWholeNow 52 = .ok (.getfield 34, 3) := by decide +kernel
theorem dX5_isWholeNow_55 : decode cX5_isWholeNow 55 = .ok (.iload_n 3, 1) := by decide +kernel
theorem dX5_isWholeNow_56 : decode cX5_isWholeNow 56 = .ok (.iaload, 1) := by decide +kernel
theorem dX5_isWholeNow_57 : decode cX5_isWholeNow 57 = .ok (.invokevirtual 124, 3) := by decide +kernel
theorem dX5_isWholeNow_60 : decode cX5_isWholeNow 60 = .ok (.ifCond .eq 7, 3) := by decide +kernel
theorem dX5_isWholeNow_63 : decode cX5_isWholeNow 63 = .ok (.iconst 1, 1) := by decide +kernel
theorem dX5_isWholeNow_64 : decode cX5_isWholeNow 64 = .ok (.goto 4, 3) := by decide +kernel
theorem dX5_isWholeNow_67 : decode cX5_isWholeNow 67 = .ok (.iconst 0, 1) := by decide +kernel
theorem dX5_isWholeNow_68 : decode cX5_isWholeNow 68 = .ok (.istore_n 2, 1) := by decide +kernel
theorem dX5_isWholeNow_69 : decode cX5_isWholeNow 69 = .ok (.iinc 3 1, 3) := by decide +kernel
theorem dX5_isWholeNow_72 : decode cX5_isWholeNow 72 = .ok (.goto (-65), 3) := by decide +kernel
theorem dX5_isWholeNow_75 : decode cX5_isWholeNow 75 = .ok (.iload_n 2, 1) := by decide +kernel
theorem dX5_isWholeNow_76 : decode cX5_isWholeNow 76 = .ok (.ireturn, 1) := by decide +kernel
set_option maxRecDepth 20000 in
theorem ggX5_clean_X5_isPage : GoodIn wsX5_clean wsX5_isPage := goodIn_r _ [9, 10, 11, 8, 12] (by decide +kernel) (by decide +kernel)
set_option maxRecDepth 20000 in
theorem gX5_clean_X5_isPage : GoodIn wsX5_clean (va_wsS RX5 127 yX5_isPage wsX5_isPage) := goodIn_app (goodIn_of _ (by decide +kernel)) ggX5_clean_X5_isPage
set_option maxRecDepth 20000 in
theorem ggX5_clean_X5_isFine : GoodIn wsX5_clean wsX5_isFine := goodIn_r _ [16, 17, 56, 57, 58, 59, 60, 61, 62, 63, 64, 65, 66, 67, 68, 69, 70, 71, 72] (by decide +kernel) (by decide +kernel)
set_option maxRecDepth 20000 in
theorem gX5_clean_X5_isFine : GoodIn wsX5_clean (wsV RX5 84 RX5 yX5_isFine wsX5_isFine) := goodIn_app (goodIn_of _ (by decide +kernel)) ggX5_clean_X5_isFine
set_option maxRecDepth 20000 in
theorem ggX5_clean_X5_canGo : GoodIn wsX5_clean wsX5_canGo := goodIn_r _ [21, 2, 22, 3, 23, 24, 25, 26, 8, 27, 28, 29, 30, 31, 32, 33, 34, 35, 36, 37, 56, 57, 58, 59, 60, 61, 62, 63, 64, 65, 66, 67, 68, 69, 70, 71, 72] (by decide +kernel) (by decide +kernel)
set_option maxRecDepth 20000 in
theorem gX5_clean_X5_canGo : GoodIn wsX5_clean (wsV RX5 130 RX5 yX5_canGo wsX5_canGo) := goodIn_app (goodIn_of _ (by decide +kernel)) ggX5_clean_X5_canGo
set_option maxRecDepth 20000 in
theorem ggX5_clean_X5_leaves : GoodIn wsX5_clean wsX5_leaves := goodIn_r _ [41, 42, 2, 43, 44, 45, 56, 57, 58, 59, 60, 61, 62, 63, 64, 65, 66, 67, 68, 69, 70, 71, 72] (by decide +kernel) (by decide +kernel)
set_option maxRecDepth 20000 in
theorem gX5_clean_X5_leaves : GoodIn wsX5_clean (wsV RX5 133 RX5 yX5_leaves wsX5_leaves) := goodIn_app (goodIn_of _ (by decide +kernel)) ggX5_clean_X5_leaves
set_option maxRecDepth 20000 in
theorem ggX5_clean_X5_ageOf : GoodIn wsX5_clean wsX5_ageOf := goodIn_r _ [49, 50, 51, 56, 57, 58, 59, 60, 61, 62, 63, 64, 65, 66, 67, 68, 69, 70, 71, 72] (by decide +kernel) (by decide +kernel)
set_option maxRecDepth 20000 in
theorem gX5_clean_X5_ageOf : GoodIn wsX5_clean (wsV RX5 76 RX5 yX5_ageOf wsX5_ageOf) := goodIn_app (goodIn_of _ (by decide +kernel)) ggX5_clean_X5_ageOf
set_option maxRecDepth 20000 in
theorem ggX5_clean_X5_isPast : GoodIn wsX5_clean wsX5_isPast := goodIn_r _ [27, 22, 28, 29, 30, 31, 8, 32, 33, 34, 35, 36, 37, 56, 57, 58, 59, 60, 61, 62, 63, 64, 65, 66, 67, 68, 69, 70, 71, 72] (by decide +kernel) (by decide +kernel)
set_option maxRecDepth 20000 in
theorem gX5_clean_X5_isPast : GoodIn wsX5_clean (wsV RX5 124 RX5 yX5_isPast wsX5_isPast) := goodIn_app (goodIn_of _ (by decide +kernel)) ggX5_clean_X5_isPast
set_option maxRecDepth 20000 in
theorem ggX5_clean_X5_isWholeNow : GoodIn wsX5_clean wsX5_isWholeNow := goodIn_r _ [55, 2, 23, 1, 3, 24, 25, 26, 8, 27, 22, 28, 29, 30, 31, 32, 33, 34, 35, 36, 37, 56, 57, 58, 59, 60, 61, 62, 63, 64, 65, 66, 67, 68, 69, 70, 71, 72] (by decide +kernel) (by decide +kernel)
set_option maxRecDepth 20000 in
theorem gX5_clean_X5_isWholeNow : GoodIn wsX5_clean (wsV RX5 137 RX5 yX5_isWholeNow wsX5_isWholeNow) := goodIn_app (goodIn_of _ (by decide +kernel)) ggX5_clean_X5_isWholeNow
theorem dX5_clean_0 : decode cX5_clean 0 = .ok (.aload_n 0, 1) := by decide +kernel
theorem dX5_clean_1 : decode cX5_clean 1 = .ok (.iload_n 1, 1) := by decide +kernel
theorem dX5_clean_2 : decode cX5_clean 2 = .ok (.invokestatic 127, 3) := by decide +kernel
theorem dX5_clean_5 : decode cX5_clean 5 = .ok (.ifCond .eq 7, 3) := by decide +kernel
theorem dX5_clean_8 : decode cX5_clean 8 = .ok (.iconst 0, 1) := by decide +kernel
theorem dX5_clean_9 : decode cX5_clean 9 = .ok (.goto 4, 3) := by decide +kernel
theorem dX5_clean_12 : decode cX5_clean 12 = .ok (.iconst 1, 1) := by decide +kernel
theorem dX5_clean_13 : decode cX5_clean 13 = .ok (.invokevirtual 84, 3) := by decide +kernel
theorem dX5_clean_16 : decode cX5_clean 16 = .ok (.ifCond .ne 5, 3) := by decide +kernel
theorem dX5_clean_19 : decode cX5_clean 19 = .ok (.iconst 0, 1) := by decide +kernel
theorem dX5_clean_20 : decode cX5_clean 20 = .ok (.ireturn, 1) := by decide +kernel
theorem dX5_clean_21 : decode cX5_clean 21 = .ok (.iconst 0, 1) := by decide +kernel
theorem dX5_clean_22 : decode cX5_clean 22 = .ok (.istore_n 2, 1) := by decide +kernel
theorem dX5_clean_23 : decode cX5_clean 23 = .ok (.bipush 8, 2) := by decide +kernel
theorem dX5_clean_25 : decode cX5_clean 25 = .ok (.iload_n 1, 1) := by decide +kernel
theorem dX5_clean_26 : decode cX5_clean 26 = .ok (.imul, 1) := by decide +kernel
theorem dX5_clean_27 : decode cX5_clean 27 = .ok (.istore_n 3, 1) := by decide +kernel
theorem dX5_clean_28 : decode cX5_clean 28 = .ok (.iload_n 3, 1) := by decide +kernel
theorem dX5_clean_29 : decode cX5_clean 29 = .ok (.bipush 8, 2) := by decide +kernel
theorem dX5_clean_31 : decode cX5_clean 31 = .ok (.iload_n 1, 1) := by decide +kernel
theorem dX5_clean_32 : decode cX5_clean 32 = .ok (.imul, 1) := by decide +kernel
theorem dX5_clean_33 : decode cX5_clean 33 = .ok (.bipush 8, 2) := by decide +kernel
theorem dX5_clean_35 : decode cX5_clean 35 = .ok (.iadd, 1) := by decide +kernel
theorem dX5_clean_36 : decode cX5_clean 36 = .ok (.if_icmp .ge 25, 3) := by decide +kernel
theorem dX5_clean_39 : decode cX5_clean 39 = .ok (.aload_n 0, 1) := by decide +kernel
theorem dX5_clean_40 : decode cX5_clean 40 = .ok (.iload_n 3, 1) := by decide +kernel
theorem dX5_clean_41 : decode cX5_clean 41 = .ok (.invokevirtual 130, 3) := by decide +kernel
theorem dX5_clean_44 : decode cX5_clean 44 = .ok (.ifCond .eq 11, 3) := by decide +kernel
theorem dX5_clean_47 : decode cX5_clean 47 = .ok (.aload_n 0, 1) := by decide +kernel
theorem dX5_clean_48 : decode cX5_clean 48 = .ok (.iload_n 3, 1) := by decide +kernel
theorem dX5_clean_49 : decode cX5_clean 49 = .ok (.invokevirtual 133, 3) := by decide +kernel
theorem dX5_clean_52 : decode cX5_clean 52 = .ok (.iinc 2 1, 3) := by decide +kernel
theorem dX5_clean_55 : decode cX5_clean 55 = .ok (.iinc 3 1, 3) := by decide +kernel
theorem dX5_clean_58 : decode cX5_clean 58 = .ok (.goto (-30), 3) := by decide +kernel
theorem dX5_clean_61 : decode cX5_clean 61 = .ok (.bipush 8, 2) := by decide +kernel
theorem dX5_clean_63 : decode cX5_clean 63 = .ok (.iload_n 1, 1) := by decide +kernel
theorem dX5_clean_64 : decode cX5_clean 64 = .ok (.imul, 1) := by decide +kernel
theorem dX5_clean_65 : decode cX5_clean 65 = .ok (.istore_n 3, 1) := by decide +kernel
theorem dX5_clean_66 : decode cX5_clean 66 = .ok (.iload_n 3, 1) := by decide +kernel
theorem dX5_clean_67 : decode cX5_clean 67 = .ok (.bipush 8, 2) := by decide +kernel
theorem dX5_clean_69 : decode cX5_clean 69 = .ok (.iload_n 1, 1) := by decide +kernel
theorem dX5_clean_70 : decode cX5_clean 70 = .ok (.imul, 1) := by decide +kernel
theorem dX5_clean_71 : decode cX5_clean 71 = .ok (.bipush 8, 2) := by decide +kernel
theorem dX5_clean_73 : decode cX5_clean 73 = .ok (.iadd, 1) := by decide +kernel
theorem dX5_clean_74 : decode cX5_clean 74 = .ok (.if_icmp .ge 68, 3) := by decide +kernel
theorem dX5_clean_77 : decode cX5_clean 77 = .ok (.aload_n 0, 1) := by decide +kernel
theorem dX5_clean_78 : decode cX5_clean 78 = .ok (.getfield 37, 3) := by decide +kernel
theorem dX5_clean_81 : decode cX5_clean 81 = .ok (.iload_n 3, 1) := by decide +kernel
theorem dX5_clean_82 : decode cX5_clean 82 = .ok (.aload_n 0, 1) := by decide +kernel
theorem dX5_clean_83 : decode cX5_clean 83 = .ok (.getfield 37, 3) := by decide +kernel
theorem dX5_clean_86 : decode cX5_clean 86 = .ok (.iload_n 3, 1) := by decide +kernel
theorem dX5_clean_87 : decode cX5_clean 87 = .ok (.baload, 1) := by decide +kernel
theorem dX5_clean_88 : decode cX5_clean 88 = .ok (.ifCond .ne 42, 3) := by decide +kernel
theorem dX5_clean_91 : decode cX5_clean 91 = .ok (.aload_n 0, 1) := by decide +kernel
theorem dX5_clean_92 : decode cX5_clean 92 = .ok (.getfield 24, 3) := by decide +kernel
theorem dX5_clean_95 : decode cX5_clean 95 = .ok (.iload_n 3, 1) := by decide +kernel
theorem dX5_clean_96 : decode cX5_clean 96 = .ok (.baload, 1) := by decide +kernel
theorem dX5_clean_97 : decode cX5_clean 97 = .ok (.ifCond .eq 37, 3) := by decide +kernel
theorem dX5_clean_100 : decode cX5_clean 100 = .ok (.aload_n 0, 1) := by decide +kernel
theorem dX5_clean_101 : decode cX5_clean 101 = .ok (.aload_n 0, 1) := by decide +kernel
theorem dX5_clean_102 : decode cX5_clean 102 = .ok (.getfield 34, 3) := by decide +kernel
theorem dX5_clean_105 : decode cX5_clean 105 = .ok (.iload_n 3, 1) := by decide +kernel
theorem dX5_clean_106 : decode cX5_clean 106 = .ok (.iaload, 1) := by decide +kernel
theorem dX5_clean_107 : decode cX5_clean 107 = .ok (.invokevirtual 76, 3) := by decide +kernel
theorem dX5_clean_110 : decode cX5_clean 110 = .ok (.aload_n 0, 1) := by decide +kernel
theorem dX5_clean_111 : decode cX5_clean 111 = .ok (.getfield 7, 3) := by decide +kernel
theorem dX5_clean_114 : decode cX5_clean 114 = .ok (.if_icmp .lt 20, 3) := by decide +kernel
theorem dX5_clean_117 : decode cX5_clean 117 = .ok (.aload_n 0, 1) := by decide +kernel
theorem dX5_clean_118 : decode cX5_clean 118 = .ok (.aload_n 0, 1) := by decide +kernel
theorem dX5_clean_119 : decode cX5_clean 119 = .ok (.getfield 34, 3) := by decide +kernel
theorem dX5_clean_122 : decode cX5_clean 122 = .ok (.iload_n 3, 1) := by decide +kernel
theorem dX5_clean_123 : decode cX5_clean 123 = .ok (.iaload, 1) := by decide +kernel
theorem dX5_clean_124 : decode cX5_clean 124 = .ok (.invokevirtual 124, 3) := by decide +kernel
theorem dX5_clean_127 : decode cX5_clean 127 = .ok (.ifCond .eq 7, 3) := by decide +kernel
theorem dX5_clean_130 : decode cX5_clean 130 = .ok (.iconst 1, 1) := by decide +kernel
theorem dX5_clean_131 : decode cX5_clean 131 = .ok (.goto 4, 3) := by decide +kernel
theorem dX5_clean_134 : decode cX5_clean 134 = .ok (.iconst 0, 1) := by decide +kernel
theorem dX5_clean_135 : decode cX5_clean 135 = .ok (.bastore, 1) := by decide +kernel
theorem dX5_clean_136 : decode cX5_clean 136 = .ok (.iinc 3 1, 3) := by decide +kernel
theorem dX5_clean_139 : decode cX5_clean 139 = .ok (.goto (-73), 3) := by decide +kernel
theorem dX5_clean_142 : decode cX5_clean 142 = .ok (.aload_n 0, 1) := by decide +kernel
theorem dX5_clean_143 : decode cX5_clean 143 = .ok (.getfield 46, 3) := by decide +kernel
theorem dX5_clean_146 : decode cX5_clean 146 = .ok (.iload_n 1, 1) := by decide +kernel
theorem dX5_clean_147 : decode cX5_clean 147 = .ok (.aload_n 0, 1) := by decide +kernel
theorem dX5_clean_148 : decode cX5_clean 148 = .ok (.iload_n 1, 1) := by decide +kernel
theorem dX5_clean_149 : decode cX5_clean 149 = .ok (.invokevirtual 137, 3) := by decide +kernel
theorem dX5_clean_152 : decode cX5_clean 152 = .ok (.bastore, 1) := by decide +kernel
theorem dX5_clean_153 : decode cX5_clean 153 = .ok (.iload_n 2, 1) := by decide +kernel
theorem dX5_clean_154 : decode cX5_clean 154 = .ok (.ireturn, 1) := by decide +kernel
set_option maxRecDepth 20000 in
theorem ggX5_setFreezing_X5_isIn : GoodIn wsX5_setFreezing wsX5_isIn := goodIn_r _ [5] (by decide +kernel) (by decide +kernel)
set_option maxRecDepth 20000 in
theorem gX5_setFreezing_X5_isIn : GoodIn wsX5_setFreezing (va_wsS RX5 61 yX5_isIn wsX5_isIn) := goodIn_app (goodIn_of _ (by decide +kernel)) ggX5_setFreezing_X5_isIn
set_option maxRecDepth 20000 in
theorem ggX5_setFreezing_X5_isFine : GoodIn wsX5_setFreezing wsX5_isFine := goodIn_r _ [9, 10, 11, 12, 13, 14, 15, 16, 17, 18, 19, 20, 21, 22, 23, 24, 25, 26, 27] (by decide +kernel) (by decide +kernel)
set_option maxRecDepth 20000 in
theorem gX5_setFreezing_X5_isFine : GoodIn wsX5_setFreezing (wsV RX5 84 RX5 yX5_isFine wsX5_isFine) := goodIn_app (goodIn_of _ (by decide +kernel)) ggX5_setFreezing_X5_isFine
theorem dX5_setFreezing_0 : decode cX5_setFreezing 0 = .ok (.aload_n 0, 1) := by decide +kernel
theorem dX5_setFreezing_1 : decode cX5_setFreezing 1 = .ok (.iload_n 1, 1) := by decide +kernel
theorem dX5_setFreezing_2 : decode cX5_setFreezing 2 = .ok (.iconst 1, 1) := by decide +kernel
theorem dX5_setFreezing_3 : decode cX5_setFreezing 3 = .ok (.bipush 27, 2) := by decide +kernel
theorem dX5_setFreezing_5 : decode cX5_setFreezing 5 = .ok (.invokestatic 61, 3) := by decide +kernel
theorem dX5_setFreezing_8 : decode cX5_setFreezing 8 = .ok (.ifCond .eq 7, 3) := by decide +kernel
theorem dX5_setFreezing_11 : decode cX5_setFreezing 11 = .ok (.iconst 0, 1) := by decide +kernel
theorem dX5_setFreezing_12 : decode cX5_setFreezing 12 = .ok (.goto 4, 3) := by decide +kernel
theorem dX5_setFreezing_15 : decode cX5_setFreezing 15 = .ok (.iconst 1, 1) := by decide +kernel
theorem dX5_setFreezing_16 : decode cX5_setFreezing 16 = .ok (.invokevirtual 84, 3) := by decide +kernel
theorem dX5_setFreezing_19 : decode cX5_setFreezing 19 = .ok (.ifCond .ne 5, 3) := by decide +kernel
theorem dX5_setFreezing_22 : decode cX5_setFreezing 22 = .ok (.iconst 0, 1) := by decide +kernel
theorem dX5_setFreezing_23 : decode cX5_setFreezing 23 = .ok (.ireturn, 1) := by decide +kernel
theorem dX5_setFreezing_24 : decode cX5_setFreezing 24 = .ok (.aload_n 0, 1) := by decide +kernel
theorem dX5_setFreezing_25 : decode cX5_setFreezing 25 = .ok (.getfield 7, 3) := by decide +kernel
theorem dX5_setFreezing_28 : decode cX5_setFreezing 28 = .ok (.istore_n 2, 1) := by decide +kernel
theorem dX5_setFreezing_29 : decode cX5_setFreezing 29 = .ok (.aload_n 0, 1) := by decide +kernel
theorem dX5_setFreezing_30 : decode cX5_setFreezing 30 = .ok (.iload_n 1, 1) := by decide +kernel
theorem dX5_setFreezing_31 : decode cX5_setFreezing 31 = .ok (.putfield 7, 3) := by decide +kernel
theorem dX5_setFreezing_34 : decode cX5_setFreezing 34 = .ok (.iload_n 2, 1) := by decide +kernel
theorem dX5_setFreezing_35 : decode cX5_setFreezing 35 = .ok (.ireturn, 1) := by decide +kernel
set_option maxRecDepth 20000 in
theorem ggX5_isMapped_X5_isPage : GoodIn wsX5_isMapped wsX5_isPage := goodIn_r _ [5, 6, 7, 4, 8] (by decide +kernel) (by decide +kernel)
set_option maxRecDepth 20000 in
theorem gX5_isMapped_X5_isPage : GoodIn wsX5_isMapped (va_wsS RX5 127 yX5_isPage wsX5_isPage) := goodIn_app (goodIn_of _ (by decide +kernel)) ggX5_isMapped_X5_isPage
set_option maxRecDepth 20000 in
theorem ggX5_isMapped_X5_isFine : GoodIn wsX5_isMapped wsX5_isFine := goodIn_r _ [12, 13, 14, 15, 16, 17, 18, 19, 20, 21, 22, 23, 24, 25, 26, 27, 28, 29, 30] (by decide +kernel) (by decide +kernel)
set_option maxRecDepth 20000 in
theorem gX5_isMapped_X5_isFine : GoodIn wsX5_isMapped (wsV RX5 84 RX5 yX5_isFine wsX5_isFine) := goodIn_app (goodIn_of _ (by decide +kernel)) ggX5_isMapped_X5_isFine
theorem dX5_isMapped_0 : decode cX5_isMapped 0 = .ok (.aload_n 0, 1) := by decide +kernel
theorem dX5_isMapped_1 : decode cX5_isMapped 1 = .ok (.iload_n 1, 1) := by decide +kernel
theorem dX5_isMapped_2 : decode cX5_isMapped 2 = .ok (.invokestatic 127, 3) := by decide +kernel
theorem dX5_isMapped_5 : decode cX5_isMapped 5 = .ok (.ifCond .eq 7, 3) := by decide +kernel
theorem dX5_isMapped_8 : decode cX5_isMapped 8 = .ok (.iconst 0, 1) := by decide +kernel
theorem dX5_isMapped_9 : decode cX5_isMapped 9 = .ok (.goto 4, 3) := by decide +kernel
theorem dX5_isMapped_12 : decode cX5_isMapped 12 = .ok (.iconst 1, 1) := by decide +kernel
theorem dX5_isMapped_13 : decode cX5_isMapped 13 = .ok (.invokevirtual 84, 3) := by decide +kernel
theorem dX5_isMapped_16 : decode cX5_isMapped 16 = .ok (.ifCond .eq 16, 3) := by decide +kernel
theorem dX5_isMapped_19 : decode cX5_isMapped 19 = .ok (.aload_n 0, 1) := by decide +kernel
theorem dX5_isMapped_20 : decode cX5_isMapped 20 = .ok (.getfield 46, 3) := by decide +kernel
theorem dX5_isMapped_23 : decode cX5_isMapped 23 = .ok (.iload_n 1, 1) := by decide +kernel
theorem dX5_isMapped_24 : decode cX5_isMapped 24 = .ok (.baload, 1) := by decide +kernel
theorem dX5_isMapped_25 : decode cX5_isMapped 25 = .ok (.ifCond .eq 7, 3) := by decide +kernel
theorem dX5_isMapped_28 : decode cX5_isMapped 28 = .ok (.iconst 1, 1) := by decide +kernel
theorem dX5_isMapped_29 : decode cX5_isMapped 29 = .ok (.goto 4, 3) := by decide +kernel
theorem dX5_isMapped_32 : decode cX5_isMapped 32 = .ok (.iconst 0, 1) := by decide +kernel
theorem dX5_isMapped_33 : decode cX5_isMapped 33 = .ok (.ireturn, 1) := by decide +kernel
set_option maxRecDepth 20000 in
theorem ggX5_isWhole_X5_isPage : GoodIn wsX5_isWhole wsX5_isPage := goodIn_r _ [4, 5, 6, 3, 7] (by decide +kernel) (by decide +kernel)
set_option maxRecDepth 20000 in
theorem gX5_isWhole_X5_isPage : GoodIn wsX5_isWhole (va_wsS RX5 127 yX5_isPage wsX5_isPage) := goodIn_app (goodIn_of _ (by decide +kernel)) ggX5_isWhole_X5_isPage
set_option maxRecDepth 20000 in
theorem ggX5_isWhole_X5_isFine : GoodIn wsX5_isWhole wsX5_isFine := goodIn_r _ [11, 12, 36, 37, 38, 39, 40, 41, 42, 43, 44, 45, 46, 47, 48, 49, 50, 51, 52] (by decide +kernel) (by decide +kernel)
set_option maxRecDepth 20000 in
theorem gX5_isWhole_X5_isFine : GoodIn wsX5_isWhole (wsV RX5 84 RX5 yX5_isFine wsX5_isFine) := goodIn_app (goodIn_of _ (by decide +kernel)) ggX5_isWhole_X5_isFine
set_option maxRecDepth 20000 in
theorem ggX5_isWhole_X5_isWholeNow : GoodIn wsX5_isWhole wsX5_isWholeNow := goodIn_r _ [16, 17, 18, 19, 20, 21, 22, 23, 3, 24, 25, 26, 27, 28, 29, 30, 31, 32, 33, 34, 35, 36, 37, 38, 39, 40, 41, 42, 43, 44, 45, 46, 47, 48, 49, 50, 51, 52] (by decide +kernel) (by decide +kernel)
set_option maxRecDepth 20000 in
theorem gX5_isWhole_X5_isWholeNow : GoodIn wsX5_isWhole (wsV RX5 137 RX5 yX5_isWholeNow wsX5_isWholeNow) := goodIn_app (goodIn_of _ (by decide +kernel)) ggX5_isWhole_X5_isWholeNow
theorem dX5_isWhole_0 : decode cX5_isWhole 0 = .ok (.aload_n 0, 1) := by decide +kernel
theorem dX5_isWhole_1 : decode cX5_isWhole 1 = .ok (.iload_n 1, 1) := by decide +kernel
theorem dX5_isWhole_2 : decode cX5_isWhole 2 = .ok (.invokestatic 127, 3) := by decide +kernel
theorem dX5_isWhole_5 : decode cX5_isWhole 5 = .ok (.ifCond .eq 7, 3) := by decide +kernel
theorem dX5_isWhole_8 : decode cX5_isWhole 8 = .ok (.iconst 0, 1) := by decide +kernel
theorem dX5_isWhole_9 : decode cX5_isWhole 9 = .ok (.goto 4, 3) := by decide +kernel
theorem dX5_isWhole_12 : decode cX5_isWhole 12 = .ok (.iconst 1, 1) := by decide +kernel
theorem dX5_isWhole_13 : decode cX5_isWhole 13 = .ok (.invokevirtual 84, 3) := by decide +kernel
theorem dX5_isWhole_16 : decode cX5_isWhole 16 = .ok (.ifCond .eq 15, 3) := by decide +kernel
theorem dX5_isWhole_19 : decode cX5_isWhole 19 = .ok (.aload_n 0, 1) := by decide +kernel
theorem dX5_isWhole_20 : decode cX5_isWhole 20 = .ok (.iload_n 1, 1) := by decide +kernel
theorem dX5_isWhole_21 : decode cX5_isWhole 21 = .ok (.invokevirtual 137, 3) := by decide +kernel
theorem dX5_isWhole_24 : decode cX5_isWhole 24 = .ok (.ifCond .eq 7, 3) := by decide +kernel
theorem dX5_isWhole_27 : decode cX5_isWhole 27 = .ok (.iconst 1, 1) := by decide +kernel
theorem dX5_isWhole_28 : decode cX5_isWhole 28 = .ok (.goto 4, 3) := by decide +kernel
theorem dX5_isWhole_31 : decode cX5_isWhole 31 = .ok (.iconst 0, 1) := by decide +kernel
theorem dX5_isWhole_32 : decode cX5_isWhole 32 = .ok (.ireturn, 1) := by decide +kernel
set_option maxRecDepth 20000 in
theorem ggX5_slot_X5_isPage : GoodIn wsX5_slot wsX5_isPage := goodIn_r _ [9, 10, 11, 8, 12] (by decide +kernel) (by decide +kernel)
set_option maxRecDepth 20000 in
theorem gX5_slot_X5_isPage : GoodIn wsX5_slot (va_wsS RX5 127 yX5_isPage wsX5_isPage) := goodIn_app (goodIn_of _ (by decide +kernel)) ggX5_slot_X5_isPage
set_option maxRecDepth 20000 in
theorem ggX5_slot_X5_isIn : GoodIn wsX5_slot wsX5_isIn := goodIn_r _ [12] (by decide +kernel) (by decide +kernel)
set_option maxRecDepth 20000 in
theorem gX5_slot_X5_isIn : GoodIn wsX5_slot (va_wsS RX5 61 yX5_isIn wsX5_isIn) := goodIn_app (goodIn_of _ (by decide +kernel)) ggX5_slot_X5_isIn
set_option maxRecDepth 20000 in
theorem ggX5_slot_X5_isFine : GoodIn wsX5_slot wsX5_isFine := goodIn_r _ [16, 17, 18, 19, 20, 21, 22, 23, 24, 25, 26, 27, 28, 29, 30, 31, 32, 33, 34] (by decide +kernel) (by decide +kernel)
set_option maxRecDepth 20000 in
theorem gX5_slot_X5_isFine : GoodIn wsX5_slot (wsV RX5 84 RX5 yX5_isFine wsX5_isFine) := goodIn_app (goodIn_of _ (by decide +kernel)) ggX5_slot_X5_isFine
theorem dX5_slot_0 : decode cX5_slot 0 = .ok (.aload_n 0, 1) := by decide +kernel
theorem dX5_slot_1 : decode cX5_slot 1 = .ok (.iload_n 1, 1) := by decide +kernel
theorem dX5_slot_2 : decode cX5_slot 2 = .ok (.invokestatic 127, 3) := by decide +kernel
theorem dX5_slot_5 : decode cX5_slot 5 = .ok (.ifCond .eq 17, 3) := by decide +kernel
theorem dX5_slot_8 : decode cX5_slot 8 = .ok (.iload_n 2, 1) := by decide +kernel
theorem dX5_slot_9 : decode cX5_slot 9 = .ok (.iconst 0, 1) := by decide +kernel
theorem dX5_slot_10 : decode cX5_slot 10 = .ok (.bipush 7, 2) := by decide +kernel
theorem dX5_slot_12 : decode cX5_slot 12 = .ok (.invokestatic 61, 3) := by decide +kernel
theorem dX5_slot_15 : decode cX5_slot 15 = .ok (.ifCond .eq 7, 3) := by decide +kernel
theorem dX5_slot_18 : decode cX5_slot 18 = .ok (.iconst 0, 1) := by decide +kernel
theorem dX5_slot_19 : decode cX5_slot 19 = .ok (.goto 4, 3) := by decide +kernel
theorem dX5_slot_22 : decode cX5_slot 22 = .ok (.iconst 1, 1) := by decide +kernel
theorem dX5_slot_23 : decode cX5_slot 23 = .ok (.invokevirtual 84, 3) := by decide +kernel
theorem dX5_slot_26 : decode cX5_slot 26 = .ok (.ifCond .ne 5, 3) := by decide +kernel
theorem dX5_slot_29 : decode cX5_slot 29 = .ok (.iconst 0, 1) := by decide +kernel
theorem dX5_slot_30 : decode cX5_slot 30 = .ok (.ireturn, 1) := by decide +kernel
theorem dX5_slot_31 : decode cX5_slot 31 = .ok (.bipush 8, 2) := by decide +kernel
theorem dX5_slot_33 : decode cX5_slot 33 = .ok (.iload_n 1, 1) := by decide +kernel
theorem dX5_slot_34 : decode cX5_slot 34 = .ok (.imul, 1) := by decide +kernel
theorem dX5_slot_35 : decode cX5_slot 35 = .ok (.iload_n 2, 1) := by decide +kernel
theorem dX5_slot_36 : decode cX5_slot 36 = .ok (.iadd, 1) := by decide +kernel
theorem dX5_slot_37 : decode cX5_slot 37 = .ok (.istore_n 3, 1) := by decide +kernel
theorem dX5_slot_38 : decode cX5_slot 38 = .ok (.aload_n 0, 1) := by decide +kernel
theorem dX5_slot_39 : decode cX5_slot 39 = .ok (.getfield 24, 3) := by decide +kernel
theorem dX5_slot_42 : decode cX5_slot 42 = .ok (.iload_n 3, 1) := by decide +kernel
theorem dX5_slot_43 : decode cX5_slot 43 = .ok (.baload, 1) := by decide +kernel
theorem dX5_slot_44 : decode cX5_slot 44 = .ok (.ifCond .ne 5, 3) := by decide +kernel
theorem dX5_slot_47 : decode cX5_slot 47 = .ok (.iconst (-1), 1) := by decide +kernel
theorem dX5_slot_48 : decode cX5_slot 48 = .ok (.ireturn, 1) := by decide +kernel
theorem dX5_slot_49 : decode cX5_slot 49 = .ok (.aload_n 0, 1) := by decide +kernel
theorem dX5_slot_50 : decode cX5_slot 50 = .ok (.getfield 28, 3) := by decide +kernel
theorem dX5_slot_53 : decode cX5_slot 53 = .ok (.iload_n 3, 1) := by decide +kernel
theorem dX5_slot_54 : decode cX5_slot 54 = .ok (.iaload, 1) := by decide +kernel
theorem dX5_slot_55 : decode cX5_slot 55 = .ok (.aload_n 0, 1) := by decide +kernel
theorem dX5_slot_56 : decode cX5_slot 56 = .ok (.getfield 37, 3) := by decide +kernel
theorem dX5_slot_59 : decode cX5_slot 59 = .ok (.iload_n 3, 1) := by decide +kernel
theorem dX5_slot_60 : decode cX5_slot 60 = .ok (.baload, 1) := by decide +kernel
theorem dX5_slot_61 : decode cX5_slot 61 = .ok (.ifCond .eq 8, 3) := by decide +kernel
theorem dX5_slot_64 : decode cX5_slot 64 = .ok (.bipush 10, 2) := by decide +kernel
theorem dX5_slot_66 : decode cX5_slot 66 = .ok (.goto 4, 3) := by decide +kernel
theorem dX5_slot_69 : decode cX5_slot 69 = .ok (.iconst 0, 1) := by decide +kernel
theorem dX5_slot_70 : decode cX5_slot 70 = .ok (.iadd, 1) := by decide +kernel
theorem dX5_slot_71 : decode cX5_slot 71 = .ok (.aload_n 0, 1) := by decide +kernel
theorem dX5_slot_72 : decode cX5_slot 72 = .ok (.getfield 40, 3) := by decide +kernel
theorem dX5_slot_75 : decode cX5_slot 75 = .ok (.iload_n 3, 1) := by decide +kernel
theorem dX5_slot_76 : decode cX5_slot 76 = .ok (.iaload, 1) := by decide +kernel
theorem dX5_slot_77 : decode cX5_slot 77 = .ok (.iconst (-1), 1) := by decide +kernel
theorem dX5_slot_78 : decode cX5_slot 78 = .ok (.if_icmp .eq 8, 3) := by decide +kernel
theorem dX5_slot_81 : decode cX5_slot 81 = .ok (.bipush 20, 2) := by decide +kernel
theorem dX5_slot_83 : decode cX5_slot 83 = .ok (.goto 4, 3) := by decide +kernel
theorem dX5_slot_86 : decode cX5_slot 86 = .ok (.iconst 0, 1) := by decide +kernel
theorem dX5_slot_87 : decode cX5_slot 87 = .ok (.iadd, 1) := by decide +kernel
theorem dX5_slot_88 : decode cX5_slot 88 = .ok (.aload_n 0, 1) := by decide +kernel
theorem dX5_slot_89 : decode cX5_slot 89 = .ok (.getfield 43, 3) := by decide +kernel
theorem dX5_slot_92 : decode cX5_slot 92 = .ok (.iload_n 3, 1) := by decide +kernel
theorem dX5_slot_93 : decode cX5_slot 93 = .ok (.iaload, 1) := by decide +kernel
theorem dX5_slot_94 : decode cX5_slot 94 = .ok (.iconst (-1), 1) := by decide +kernel
theorem dX5_slot_95 : decode cX5_slot 95 = .ok (.if_icmp .eq 20, 3) := by decide +kernel
theorem dX5_slot_98 : decode cX5_slot 98 = .ok (.bipush 100, 2) := by decide +kernel
theorem dX5_slot_100 : decode cX5_slot 100 = .ok (.aload_n 0, 1) := by decide +kernel
theorem dX5_slot_101 : decode cX5_slot 101 = .ok (.getfield 43, 3) := by decide +kernel
theorem dX5_slot_104 : decode cX5_slot 104 = .ok (.iload_n 3, 1) := by decide +kernel
theorem dX5_slot_105 : decode cX5_slot 105 = .ok (.iaload, 1) := by decide +kernel
theorem dX5_slot_106 : decode cX5_slot 106 = .ok (.bipush 8, 2) := by decide +kernel
theorem dX5_slot_108 : decode cX5_slot 108 = .ok (.irem, 1) := by decide +kernel
theorem dX5_slot_109 : decode cX5_slot 109 = .ok (.iconst 1, 1) := by decide +kernel
theorem dX5_slot_110 : decode cX5_slot 110 = .ok (.iadd, 1) := by decide +kernel
theorem dX5_slot_111 : decode cX5_slot 111 = .ok (.imul, 1) := by decide +kernel
theorem dX5_slot_112 : decode cX5_slot 112 = .ok (.goto 4, 3) := by decide +kernel
theorem dX5_slot_115 : decode cX5_slot 115 = .ok (.iconst 0, 1) := by decide +kernel
theorem dX5_slot_116 : decode cX5_slot 116 = .ok (.iadd, 1) := by decide +kernel
theorem dX5_slot_117 : decode cX5_slot 117 = .ok (.ireturn, 1) := by decide +kernel
set_option maxRecDepth 20000 in
theorem ggX5_entries_X5_isKey : GoodIn wsX5_entries wsX5_isKey := goodIn_r _ [5, 6, 7, 4, 8] (by decide +kernel) (by decide +kernel)
set_option maxRecDepth 20000 in
theorem gX5_entries_X5_isKey : GoodIn wsX5_entries (va_wsS RX5 96 yX5_isKey wsX5_isKey) := goodIn_app (goodIn_of _ (by decide +kernel)) ggX5_entries_X5_isKey
set_option maxRecDepth 20000 in
theorem ggX5_entries_X5_isFine : GoodIn wsX5_entries wsX5_isFine := goodIn_r _ [12, 13, 14, 15, 16, 17, 18, 19, 20, 21, 22, 23, 24, 25, 26, 27, 28, 29, 30] (by decide +kernel) (by decide +kernel)
set_option maxRecDepth 20000 in
theorem gX5_entries_X5_isFine : GoodIn wsX5_entries (wsV RX5 84 RX5 yX5_isFine wsX5_isFine) := goodIn_app (goodIn_of _ (by decide +kernel)) ggX5_entries_X5_isFine
theorem dX5_entries_0 : decode cX5_entries 0 = .ok (.aload_n 0, 1) := by decide +kernel
theorem dX5_entries_1 : decode cX5_entries 1 = .ok (.iload_n 1, 1) := by decide +kernel
theorem dX5_entries_2 : decode cX5_entries 2 = .ok (.invokestatic 96, 3) := by decide +kernel
theorem dX5_entries_5 : decode cX5_entries 5 = .ok (.ifCond .eq 7, 3) := by decide +kernel
theorem dX5_entries_8 : decode cX5_entries 8 = .ok (.iconst 0, 1) := by decide +kernel
theorem dX5_entries_9 : decode cX5_entries 9 = .ok (.goto 4, 3) := by decide +kernel
theorem dX5_entries_12 : decode cX5_entries 12 = .ok (.iconst 1, 1) := by decide +kernel
theorem dX5_entries_13 : decode cX5_entries 13 = .ok (.invokevirtual 84, 3) := by decide +kernel
theorem dX5_entries_16 : decode cX5_entries 16 = .ok (.ifCond .eq 12, 3) := by decide +kernel
theorem dX5_entries_19 : decode cX5_entries 19 = .ok (.aload_n 0, 1) := by decide +kernel
theorem dX5_entries_20 : decode cX5_entries 20 = .ok (.getfield 52, 3) := by decide +kernel
theorem dX5_entries_23 : decode cX5_entries 23 = .ok (.iload_n 1, 1) := by decide +kernel
theorem dX5_entries_24 : decode cX5_entries 24 = .ok (.iaload, 1) := by decide +kernel
theorem dX5_entries_25 : decode cX5_entries 25 = .ok (.goto 4, 3) := by decide +kernel
theorem dX5_entries_28 : decode cX5_entries 28 = .ok (.iconst 0, 1) := by decide +kernel
theorem dX5_entries_29 : decode cX5_entries 29 = .ok (.ireturn, 1) := by decide +kernel
set_option maxRecDepth 20000 in
theorem ggX5_fullness_X5_isPage : GoodIn wsX5_fullness wsX5_isPage := goodIn_r _ [6, 7, 8, 5, 9] (by decide +kernel) (by decide +kernel)
set_option maxRecDepth 20000 in
theorem gX5_fullness_X5_isPage : GoodIn wsX5_fullness (va_wsS RX5 127 yX5_isPage wsX5_isPage) := goodIn_app (goodIn_of _ (by decide +kernel)) ggX5_fullness_X5_isPage
set_option maxRecDepth 20000 in
theorem ggX5_fullness_X5_isFine : GoodIn wsX5_fullness wsX5_isFine := goodIn_r _ [13, 14, 15, 16, 17, 18, 19, 20, 21, 22, 23, 24, 25, 26, 27, 28, 29, 30, 31] (by decide +kernel) (by decide +kernel)
set_option maxRecDepth 20000 in
theorem gX5_fullness_X5_isFine : GoodIn wsX5_fullness (wsV RX5 84 RX5 yX5_isFine wsX5_isFine) := goodIn_app (goodIn_of _ (by decide +kernel)) ggX5_fullness_X5_isFine
theorem dX5_fullness_0 : decode cX5_fullness 0 = .ok (.aload_n 0, 1) := by decide +kernel
theorem dX5_fullness_1 : decode cX5_fullness 1 = .ok (.iload_n 1, 1) := by decide +kernel
theorem dX5_fullness_2 : decode cX5_fullness 2 = .ok (.invokestatic 127, 3) := by decide +kernel
theorem dX5_fullness_5 : decode cX5_fullness 5 = .ok (.ifCond .eq 7, 3) := by decide +kernel
theorem dX5_fullness_8 : decode cX5_fullness 8 = .ok (.iconst 0, 1) := by decide +kernel
theorem dX5_fullness_9 : decode cX5_fullness 9 = .ok (.goto 4, 3) := by decide +kernel
theorem dX5_fullness_12 : decode cX5_fullness 12 = .ok (.iconst 1, 1) := by decide +kernel
theorem dX5_fullness_13 : decode cX5_fullness 13 = .ok (.invokevirtual 84, 3) := by decide +kernel
theorem dX5_fullness_16 : decode cX5_fullness 16 = .ok (.ifCond .ne 5, 3) := by decide +kernel
theorem dX5_fullness_19 : decode cX5_fullness 19 = .ok (.fconst 0, 1) := by decide +kernel
theorem dX5_fullness_20 : decode cX5_fullness 20 = .ok (.freturn, 1) := by decide +kernel
theorem dX5_fullness_21 : decode cX5_fullness 21 = .ok (.iconst 0, 1) := by decide +kernel
theorem dX5_fullness_22 : decode cX5_fullness 22 = .ok (.istore_n 2, 1) := by decide +kernel
theorem dX5_fullness_23 : decode cX5_fullness 23 = .ok (.bipush 8, 2) := by decide +kernel
theorem dX5_fullness_25 : decode cX5_fullness 25 = .ok (.iload_n 1, 1) := by decide +kernel
theorem dX5_fullness_26 : decode cX5_fullness 26 = .ok (.imul, 1) := by decide +kernel
theorem dX5_fullness_27 : decode cX5_fullness 27 = .ok (.istore_n 3, 1) := by decide +kernel
theorem dX5_fullness_28 : decode cX5_fullness 28 = .ok (.iload_n 3, 1) := by decide +kernel
theorem dX5_fullness_29 : decode cX5_fullness 29 = .ok (.bipush 8, 2) := by decide +kernel
theorem dX5_fullness_31 : decode cX5_fullness 31 = .ok (.iload_n 1, 1) := by decide +kernel
theorem dX5_fullness_32 : decode cX5_fullness 32 = .ok (.imul, 1) := by decide +kernel
theorem dX5_fullness_33 : decode cX5_fullness 33 = .ok (.bipush 8, 2) := by decide +kernel
theorem dX5_fullness_35 : decode cX5_fullness 35 = .ok (.iadd, 1) := by decide +kernel
theorem dX5_fullness_36 : decode cX5_fullness 36 = .ok (.if_icmp .ge 26, 3) := by decide +kernel
theorem dX5_fullness_39 : decode cX5_fullness 39 = .ok (.iload_n 2, 1) := by decide +kernel
theorem dX5_fullness_40 : decode cX5_fullness 40 = .ok (.aload_n 0, 1) := by decide +kernel
theorem dX5_fullness_41 : decode cX5_fullness 41 = .ok (.getfield 24, 3) := by decide +kernel
theorem dX5_fullness_44 : decode cX5_fullness 44 = .ok (.iload_n 3, 1) := by decide +kernel
theorem dX5_fullness_45 : decode cX5_fullness 45 = .ok (.baload, 1) := by decide +kernel
theorem dX5_fullness_46 : decode cX5_fullness 46 = .ok (.ifCond .eq 7, 3) := by decide +kernel
theorem dX5_fullness_49 : decode cX5_fullness 49 = .ok (.iconst 1, 1) := by decide +kernel
theorem dX5_fullness_50 : decode cX5_fullness 50 = .ok (.goto 4, 3) := by decide +kernel
theorem dX5_fullness_53 : decode cX5_fullness 53 = .ok (.iconst 0, 1) := by decide +kernel
theorem dX5_fullness_54 : decode cX5_fullness 54 = .ok (.iadd, 1) := by decide +kernel
theorem dX5_fullness_55 : decode cX5_fullness 55 = .ok (.istore_n 2, 1) := by decide +kernel
theorem dX5_fullness_56 : decode cX5_fullness 56 = .ok (.iinc 3 1, 3) := by decide +kernel
theorem dX5_fullness_59 : decode cX5_fullness 59 = .ok (.goto (-31), 3) := by decide +kernel
theorem dX5_fullness_62 : decode cX5_fullness 62 = .ok (.iload_n 2, 1) := by decide +kernel
theorem dX5_fullness_63 : decode cX5_fullness 63 = .ok (.i2f, 1) := by decide +kernel
theorem dX5_fullness_64 : decode cX5_fullness 64 = .ok (.ldc 140, 2) := by decide +kernel
theorem dX5_fullness_66 : decode cX5_fullness 66 = .ok (.fdiv, 1) := by decide +kernel
theorem dX5_fullness_67 : decode cX5_fullness 67 = .ok (.freturn, 1) := by decide +kernel
set_option maxRecDepth 20000 in
theorem ggX5_oldest_X5_oldestNow : GoodIn wsX5_oldest wsX5_oldestNow := goodIn_r _ [6, 7, 8, 9, 10, 11, 12, 13, 14, 5, 15, 16, 17, 18, 19, 20, 21, 22, 23, 24, 25, 26, 27, 28, 29, 30, 31, 32, 33, 34, 35, 36, 37, 38, 39] (by decide +kernel) (by decide +kernel)
set_option maxRecDepth 20000 in
theorem gX5_oldest_X5_oldestNow : GoodIn wsX5_oldest (wsV RX5 80 RX5 yX5_oldestNow wsX5_oldestNow) := goodIn_app (goodIn_of _ (by decide +kernel)) ggX5_oldest_X5_oldestNow
theorem dX5_oldest_0 : decode cX5_oldest 0 = .ok (.aload_n 0, 1) := by decide +kernel
theorem dX5_oldest_1 : decode cX5_oldest 1 = .ok (.iconst 0, 1) := by decide +kernel
theorem dX5_oldest_2 : decode cX5_oldest 2 = .ok (.putfield 55, 3) := by decide +kernel
theorem dX5_oldest_5 : decode cX5_oldest 5 = .ok (.aload_n 0, 1) := by decide +kernel
theorem dX5_oldest_6 : decode cX5_oldest 6 = .ok (.invokevirtual 80, 3) := by decide +kernel
theorem dX5_oldest_9 : decode cX5_oldest 9 = .ok (.ireturn, 1) := by decide +kernel
theorem dJ13_bitCount_95d88_0 : decode cJ13_bitCount_95d88 0 = .ok (.lload_n 0, 1) := by decide +kernel
theorem dJ13_bitCount_95d88_1 : decode cJ13_bitCount_95d88 1 = .ok (.lload_n 0, 1) := by decide +kernel
theorem dJ13_bitCount_95d88_2 : decode cJ13_bitCount_95d88 2 = .ok (.iconst 1, 1) := by decide +kernel
theorem dJ13_bitCount_95d88_3 : decode cJ13_bitCount_95d88 3 = .ok (.lushr, 1) := by decide +kernel
theorem dJ13_bitCount_95d88_4 : decode cJ13_bitCount_95d88 4 = .ok (.ldc2_w 314, 3) := by decide +kernel
theorem dJ13_bitCount_95d88_7 : decode cJ13_bitCount_95d88 7 = .ok (.land, 1) := by decide +kernel
theorem dJ13_bitCount_95d88_8 : decode cJ13_bitCount_95d88 8 = .ok (.lsub, 1) := by decide +kernel
theorem dJ13_bitCount_95d88_9 : decode cJ13_bitCount_95d88 9 = .ok (.lstore_n 0, 1) := by decide +kernel
theorem dJ13_bitCount_95d88_10 : decode cJ13_bitCount_95d88 10 = .ok (.lload_n 0, 1) := by decide +kernel
theorem dJ13_bitCount_95d88_11 : decode cJ13_bitCount_95d88 11 = .ok (.ldc2_w 316, 3) := by decide +kernel
theorem dJ13_bitCount_95d88_14 : decode cJ13_bitCount_95d88 14 = .ok (.land, 1) := by decide +kernel
theorem dJ13_bitCount_95d88_15 : decode cJ13_bitCount_95d88 15 = .ok (.lload_n 0, 1) := by decide +kernel
theorem dJ13_bitCount_95d88_16 : decode cJ13_bitCount_95d88 16 = .ok (.iconst 2, 1) := by decide +kernel
theorem dJ13_bitCount_95d88_17 : decode cJ13_bitCount_95d88 17 = .ok (.lushr, 1) := by decide +kernel
theorem dJ13_bitCount_95d88_18 : decode cJ13_bitCount_95d88 18 = .ok (.ldc2_w 316, 3) := by decide +kernel
theorem dJ13_bitCount_95d88_21 : decode cJ13_bitCount_95d88 21 = .ok (.land, 1) := by decide +kernel
theorem dJ13_bitCount_95d88_22 : decode cJ13_bitCount_95d88 22 = .ok (.ladd, 1) := by decide +kernel
theorem dJ13_bitCount_95d88_23 : decode cJ13_bitCount_95d88 23 = .ok (.lstore_n 0, 1) := by decide +kernel
theorem dJ13_bitCount_95d88_24 : decode cJ13_bitCount_95d88 24 = .ok (.lload_n 0, 1) := by decide +kernel
theorem dJ13_bitCount_95d88_25 : decode cJ13_bitCount_95d88 25 = .ok (.lload_n 0, 1) := by decide +kernel
theorem dJ13_bitCount_95d88_26 : decode cJ13_bitCount_95d88 26 = .ok (.iconst 4, 1) := by decide +kernel
theorem dJ13_bitCount_95d88_27 : decode cJ13_bitCount_95d88 27 = .ok (.lushr, 1) := by decide +kernel
theorem dJ13_bitCount_95d88_28 : decode cJ13_bitCount_95d88 28 = .ok (.ladd, 1) := by decide +kernel
theorem dJ13_bitCount_95d88_29 : decode cJ13_bitCount_95d88 29 = .ok (.ldc2_w 318, 3) := by decide +kernel
theorem dJ13_bitCount_95d88_32 : decode cJ13_bitCount_95d88 32 = .ok (.land, 1) := by decide +kernel
theorem dJ13_bitCount_95d88_33 : decode cJ13_bitCount_95d88 33 = .ok (.lstore_n 0, 1) := by decide +kernel
theorem dJ13_bitCount_95d88_34 : decode cJ13_bitCount_95d88 34 = .ok (.lload_n 0, 1) := by decide +kernel
theorem dJ13_bitCount_95d88_35 : decode cJ13_bitCount_95d88 35 = .ok (.lload_n 0, 1) := by decide +kernel
theorem dJ13_bitCount_95d88_36 : decode cJ13_bitCount_95d88 36 = .ok (.bipush 8, 2) := by decide +kernel
theorem dJ13_bitCount_95d88_38 : decode cJ13_bitCount_95d88 38 = .ok (.lushr, 1) := by decide +kernel
theorem dJ13_bitCount_95d88_39 : decode cJ13_bitCount_95d88 39 = .ok (.ladd, 1) := by decide +kernel
theorem dJ13_bitCount_95d88_40 : decode cJ13_bitCount_95d88 40 = .ok (.lstore_n 0, 1) := by decide +kernel
theorem dJ13_bitCount_95d88_41 : decode cJ13_bitCount_95d88 41 = .ok (.lload_n 0, 1) := by decide +kernel
theorem dJ13_bitCount_95d88_42 : decode cJ13_bitCount_95d88 42 = .ok (.lload_n 0, 1) := by decide +kernel
theorem dJ13_bitCount_95d88_43 : decode cJ13_bitCount_95d88 43 = .ok (.bipush 16, 2) := by decide +kernel
theorem dJ13_bitCount_95d88_45 : decode cJ13_bitCount_95d88 45 = .ok (.lushr, 1) := by decide +kernel
theorem dJ13_bitCount_95d88_46 : decode cJ13_bitCount_95d88 46 = .ok (.ladd, 1) := by decide +kernel
theorem dJ13_bitCount_95d88_47 : decode cJ13_bitCount_95d88 47 = .ok (.lstore_n 0, 1) := by decide +kernel
theorem dJ13_bitCount_95d88_48 : decode cJ13_bitCount_95d88 48 = .ok (.lload_n 0, 1) := by decide +kernel
theorem dJ13_bitCount_95d88_49 : decode cJ13_bitCount_95d88 49 = .ok (.lload_n 0, 1) := by decide +kernel
theorem dJ13_bitCount_95d88_50 : decode cJ13_bitCount_95d88 50 = .ok (.bipush 32, 2) := by decide +kernel
theorem dJ13_bitCount_95d88_52 : decode cJ13_bitCount_95d88 52 = .ok (.lushr, 1) := by decide +kernel
theorem dJ13_bitCount_95d88_53 : decode cJ13_bitCount_95d88 53 = .ok (.ladd, 1) := by decide +kernel
theorem dJ13_bitCount_95d88_54 : decode cJ13_bitCount_95d88 54 = .ok (.lstore_n 0, 1) := by decide +kernel
theorem dJ13_bitCount_95d88_55 : decode cJ13_bitCount_95d88 55 = .ok (.lload_n 0, 1) := by decide +kernel
theorem dJ13_bitCount_95d88_56 : decode cJ13_bitCount_95d88 56 = .ok (.l2i, 1) := by decide +kernel
theorem dJ13_bitCount_95d88_57 : decode cJ13_bitCount_95d88 57 = .ok (.bipush 127, 2) := by decide +kernel
theorem dJ13_bitCount_95d88_59 : decode cJ13_bitCount_95d88 59 = .ok (.iand, 1) := by decide +kernel
theorem dJ13_bitCount_95d88_60 : decode cJ13_bitCount_95d88 60 = .ok (.ireturn, 1) := by decide +kernel
theorem dJ9_floorMod_7cf53_0 : decode cJ9_floorMod_7cf53 0 = .ok (.iload_n 0, 1) := by decide +kernel
theorem dJ9_floorMod_7cf53_1 : decode cJ9_floorMod_7cf53 1 = .ok (.iload_n 1, 1) := by decide +kernel
theorem dJ9_floorMod_7cf53_2 : decode cJ9_floorMod_7cf53 2 = .ok (.irem, 1) := by decide +kernel
theorem dJ9_floorMod_7cf53_3 : decode cJ9_floorMod_7cf53 3 = .ok (.istore_n 2, 1) := by decide +kernel
theorem dJ9_floorMod_7cf53_4 : decode cJ9_floorMod_7cf53 4 = .ok (.iload_n 0, 1) := by decide +kernel
theorem dJ9_floorMod_7cf53_5 : decode cJ9_floorMod_7cf53 5 = .ok (.iload_n 1, 1) := by decide +kernel
theorem dJ9_floorMod_7cf53_6 : decode cJ9_floorMod_7cf53 6 = .ok (.ixor, 1) := by decide +kernel
theorem dJ9_floorMod_7cf53_7 : decode cJ9_floorMod_7cf53 7 = .ok (.ifCond .ge 11, 3) := by decide +kernel
theorem dJ9_floorMod_7cf53_10 : decode cJ9_floorMod_7cf53 10 = .ok (.iload_n 2, 1) := by decide +kernel
theorem dJ9_floorMod_7cf53_11 : decode cJ9_floorMod_7cf53 11 = .ok (.ifCond .eq 7, 3) := by decide +kernel
theorem dJ9_floorMod_7cf53_14 : decode cJ9_floorMod_7cf53 14 = .ok (.iload_n 2, 1) := by decide +kernel
theorem dJ9_floorMod_7cf53_15 : decode cJ9_floorMod_7cf53 15 = .ok (.iload_n 1, 1) := by decide +kernel
theorem dJ9_floorMod_7cf53_16 : decode cJ9_floorMod_7cf53 16 = .ok (.iadd, 1) := by decide +kernel
theorem dJ9_floorMod_7cf53_17 : decode cJ9_floorMod_7cf53 17 = .ok (.ireturn, 1) := by decide +kernel
theorem dJ9_floorMod_7cf53_18 : decode cJ9_floorMod_7cf53 18 = .ok (.iload_n 2, 1) := by decide +kernel
theorem dJ9_floorMod_7cf53_19 : decode cJ9_floorMod_7cf53 19 = .ok (.ireturn, 1) := by decide +kernel
theorem dJ9_max_7cf53_0 : decode cJ9_max_7cf53 0 = .ok (.iload_n 0, 1) := by decide +kernel
theorem dJ9_max_7cf53_1 : decode cJ9_max_7cf53 1 = .ok (.iload_n 1, 1) := by decide +kernel
theorem dJ9_max_7cf53_2 : decode cJ9_max_7cf53 2 = .ok (.if_icmp .lt 7, 3) := by decide +kernel
theorem dJ9_max_7cf53_5 : decode cJ9_max_7cf53 5 = .ok (.iload_n 0, 1) := by decide +kernel
theorem dJ9_max_7cf53_6 : decode cJ9_max_7cf53 6 = .ok (.goto 4, 3) := by decide +kernel
theorem dJ9_max_7cf53_9 : decode cJ9_max_7cf53 9 = .ok (.iload_n 1, 1) := by decide +kernel
theorem dJ9_max_7cf53_10 : decode cJ9_max_7cf53 10 = .ok (.ireturn, 1) := by decide +kernel
set_option maxRecDepth 20000 in
theorem ggL_begin_X4_begin : GoodIn wsL_begin wsX4_begin := goodIn_ca (goodIn_r _ [6, 7, 8, 9, 10, 11, 12, 13, 14, 15, 16, 17, 18, 5, 19, 20, 21, 22, 23, 24, 25, 26, 27, 28, 29, 30, 31, 32, 33, 34, 35, 36, 37, 38, 39, 40, 41, 42, 43, 44, 45, 46, 47, 48, 49, 50, 51, 52, 53, 54, 55, 56, 57, 58, 59, 60, 61, 62, 63, 64, 65, 66, 67, 68, 69, 70, 71, 72, 73, 74, 75, 76, 77, 78, 79, 80, 81, 82, 83, 84, 85, 86, 87, 88, 89, 90, 91, 92, 93, 94, 95] (by decide +kernel) (by decide +kernel)) (goodIn_sub (fun _ h => List.mem_cons_of_mem _ (List.mem_append_right _ h)) (by decide +kernel))
set_option maxRecDepth 20000 in
theorem gL_begin_X4_begin : GoodIn wsL_begin (wsV RL 7 RX4 yX4_begin wsX4_begin) := goodIn_app (goodIn_of _ (by decide +kernel)) ggL_begin_X4_begin
end
section
theorem dL_begin_0 : decode cL_begin 0 = .ok (.aload_n 1, 1) := by decide +kernel
theorem dL_begin_1 : decode cL_begin 1 = .ok (.iconst 0, 1) := by decide +kernel
theorem dL_begin_2 : decode cL_begin 2 = .ok (.aload_n 0, 1) := by decide +kernel
theorem dL_begin_3 : decode cL_begin 3 = .ok (.invokevirtual 7, 3) := by decide +kernel
theorem dL_begin_6 : decode cL_begin 6 = .ok (.i2l, 1) := by decide +kernel
theorem dL_begin_7 : decode cL_begin 7 = .ok (.lastore, 1) := by decide +kernel
theorem dL_begin_8 : decode cL_begin 8 = .ok (.goto 6, 3) := by decide +kernel
theorem dL_begin_11 : decode cL_begin 11 = .ok (.astore_n 2, 1) := by decide +kernel
theorem dL_begin_12 : decode cL_begin 12 = .ok (.iconst 1, 1) := by decide +kernel
theorem dL_begin_13 : decode cL_begin 13 = .ok (.ireturn, 1) := by decide +kernel
theorem dL_begin_14 : decode cL_begin 14 = .ok (.iconst 0, 1) := by decide +kernel
theorem dL_begin_15 : decode cL_begin 15 = .ok (.ireturn, 1) := by decide +kernel
set_option maxRecDepth 20000 in
theorem ggL_end_X4_end : GoodIn wsL_end wsX4_end := goodIn_ca (goodIn_ca (goodIn_r _ [7, 8, 9, 10, 11, 12, 13, 6, 14, 15, 16, 17, 18, 19, 20, 21, 22, 23, 24, 25, 26, 27, 28, 29, 30, 31, 32, 33, 34, 35, 36, 37, 38, 39, 40, 41, 42, 43, 44, 45, 46, 47, 48, 49, 50, 51, 52, 53, 54, 55, 56, 57, 58, 59, 60, 61, 62, 63, 64, 65, 66, 67, 68, 69, 70, 71, 72, 73, 74, 75, 76, 77, 78, 79, 80, 81, 82, 83, 84, 85, 86, 87, 88, 89, 90, 91, 92] (by decide +kernel) (by decide +kernel)) (goodIn_sub (fun _ h => List.mem_cons_of_mem _ (List.mem_append_left _ (List.mem_append_right _ h))) (by decide +kernel))) (goodIn_sub (fun _ h => List.mem_cons_of_mem _ (List.mem_append_right _ h)) (by decide +kernel))
set_option maxRecDepth 20000 in
theorem gL_end_X4_end : GoodIn wsL_end (wsV RL 15 RX4 yX4_end wsX4_end) := goodIn_app (goodIn_of _ (by decide +kernel)) ggL_end_X4_end
theorem dL_end_0 : decode cL_end 0 = .ok (.aload_n 3, 1) := by decide +kernel
theorem dL_end_1 : decode cL_end 1 = .ok (.iconst 0, 1) := by decide +kernel
theorem dL_end_2 : decode cL_end 2 = .ok (.aload_n 0, 1) := by decide +kernel
theorem dL_end_3 : decode cL_end 3 = .ok (.iload_n 1, 1) := by decide +kernel
theorem dL_end_4 : decode cL_end 4 = .ok (.iload_n 2, 1) := by decide +kernel
theorem dL_end_5 : decode cL_end 5 = .ok (.invokevirtual 15, 3) := by decide +kernel
theorem dL_end_8 : decode cL_end 8 = .ok (.i2l, 1) := by decide +kernel
theorem dL_end_9 : decode cL_end 9 = .ok (.lastore, 1) := by decide +kernel
theorem dL_end_10 : decode cL_end 10 = .ok (.goto 11, 3) := by decide +kernel
theorem dL_end_13 : decode cL_end 13 = .ok (.astore 4, 2) := by decide +kernel
theorem dL_end_15 : decode cL_end 15 = .ok (.iconst 1, 1) := by decide +kernel
theorem dL_end_16 : decode cL_end 16 = .ok (.ireturn, 1) := by decide +kernel
theorem dL_end_17 : decode cL_end 17 = .ok (.astore 4, 2) := by decide +kernel
theorem dL_end_19 : decode cL_end 19 = .ok (.iconst 2, 1) := by decide +kernel
theorem dL_end_20 : decode cL_end 20 = .ok (.ireturn, 1) := by decide +kernel
theorem dL_end_21 : decode cL_end 21 = .ok (.iconst 0, 1) := by decide +kernel
theorem dL_end_22 : decode cL_end 22 = .ok (.ireturn, 1) := by decide +kernel
set_option maxRecDepth 20000 in
theorem ggL_jump_X4_jump : GoodIn wsL_jump wsX4_jump := goodIn_ca (goodIn_ca (goodIn_r _ [7, 8, 9, 10, 11, 12, 13, 14, 15, 6, 16, 17, 18, 19, 20, 21, 22, 23, 24, 25, 26, 27, 28, 29, 30, 31, 32, 33, 34, 35, 36, 37, 38, 39, 40, 41, 42, 43, 44, 45, 46, 47, 48, 49, 50, 51, 52, 53, 54, 55, 56, 57, 58, 59, 60, 61, 62, 63, 64, 65, 66, 67, 68, 69, 70, 71, 72, 73, 74, 75, 76, 77, 78, 79, 80, 81, 82, 83, 84, 85, 86, 87, 88] (by decide +kernel) (by decide +kernel)) (goodIn_sub (fun _ h => List.mem_cons_of_mem _ (List.mem_append_left _ (List.mem_append_right _ h))) (by decide +kernel))) (goodIn_sub (fun _ h => List.mem_cons_of_mem _ (List.mem_append_right _ h)) (by decide +kernel))
set_option maxRecDepth 20000 in
theorem gL_jump_X4_jump : GoodIn wsL_jump (wsV RL 21 RX4 yX4_jump wsX4_jump) := goodIn_app (goodIn_of _ (by decide +kernel)) ggL_jump_X4_jump
theorem dL_jump_0 : decode cL_jump 0 = .ok (.aload_n 2, 1) := by decide +kernel
theorem dL_jump_1 : decode cL_jump 1 = .ok (.iconst 0, 1) := by decide +kernel
theorem dL_jump_2 : decode cL_jump 2 = .ok (.aload_n 0, 1) := by decide +kernel
theorem dL_jump_3 : decode cL_jump 3 = .ok (.iload_n 1, 1) := by decide +kernel
theorem dL_jump_4 : decode cL_jump 4 = .ok (.invokevirtual 21, 3) := by decide +kernel
theorem dL_jump_7 : decode cL_jump 7 = .ok (.i2l, 1) := by decide +kernel
theorem dL_jump_8 : decode cL_jump 8 = .ok (.lastore, 1) := by decide +kernel
theorem dL_jump_9 : decode cL_jump 9 = .ok (.goto 9, 3) := by decide +kernel
theorem dL_jump_12 : decode cL_jump 12 = .ok (.astore_n 3, 1) := by decide +kernel
theorem dL_jump_13 : decode cL_jump 13 = .ok (.iconst 1, 1) := by decide +kernel
theorem dL_jump_14 : decode cL_jump 14 = .ok (.ireturn, 1) := by decide +kernel
theorem dL_jump_15 : decode cL_jump 15 = .ok (.astore_n 3, 1) := by decide +kernel
theorem dL_jump_16 : decode cL_jump 16 = .ok (.iconst 2, 1) := by decide +kernel
theorem dL_jump_17 : decode cL_jump 17 = .ok (.ireturn, 1) := by decide +kernel
theorem dL_jump_18 : decode cL_jump 18 = .ok (.iconst 0, 1) := by decide +kernel
theorem dL_jump_19 : decode cL_jump 19 = .ok (.ireturn, 1) := by decide +kernel
set_option maxRecDepth 20000 in
theorem ggL_stamp_X4_stamp : GoodIn wsL_stamp wsX4_stamp := goodIn_ca (goodIn_r _ [6, 7, 8, 9, 10, 11, 5, 12, 13, 14, 15, 16, 17, 18, 19, 20, 21, 22, 23, 24, 25, 26, 27, 28, 29, 30, 31, 32] (by decide +kernel) (by decide +kernel)) (goodIn_sub (fun _ h => List.mem_cons_of_mem _ (List.mem_append_right _ h)) (by decide +kernel))
set_option maxRecDepth 20000 in
theorem gL_stamp_X4_stamp : GoodIn wsL_stamp (wsV RL 27 RX4 yX4_stamp wsX4_stamp) := goodIn_app (goodIn_of _ (by decide +kernel)) ggL_stamp_X4_stamp
theorem dL_stamp_0 : decode cL_stamp 0 = .ok (.aload_n 2, 1) := by decide +kernel
theorem dL_stamp_1 : decode cL_stamp 1 = .ok (.iconst 0, 1) := by decide +kernel
theorem dL_stamp_2 : decode cL_stamp 2 = .ok (.aload_n 0, 1) := by decide +kernel
theorem dL_stamp_3 : decode cL_stamp 3 = .ok (.iload_n 1, 1) := by decide +kernel
theorem dL_stamp_4 : decode cL_stamp 4 = .ok (.invokevirtual 27, 3) := by decide +kernel
theorem dL_stamp_7 : decode cL_stamp 7 = .ok (.i2l, 1) := by decide +kernel
theorem dL_stamp_8 : decode cL_stamp 8 = .ok (.lastore, 1) := by decide +kernel
theorem dL_stamp_9 : decode cL_stamp 9 = .ok (.goto 6, 3) := by decide +kernel
theorem dL_stamp_12 : decode cL_stamp 12 = .ok (.astore_n 3, 1) := by decide +kernel
theorem dL_stamp_13 : decode cL_stamp 13 = .ok (.iconst 1, 1) := by decide +kernel
theorem dL_stamp_14 : decode cL_stamp 14 = .ok (.ireturn, 1) := by decide +kernel
theorem dL_stamp_15 : decode cL_stamp 15 = .ok (.iconst 0, 1) := by decide +kernel
theorem dL_stamp_16 : decode cL_stamp 16 = .ok (.ireturn, 1) := by decide +kernel
set_option maxRecDepth 20000 in
theorem ggL_isBefore_X4_isBefore : GoodIn wsL_isBefore wsX4_isBefore := goodIn_ca (goodIn_r _ [6, 7, 8, 5, 9, 10, 11, 12, 13, 14, 15, 16, 17, 18] (by decide +kernel) (by decide +kernel)) (goodIn_sub (fun _ h => List.mem_cons_of_mem _ (List.mem_append_right _ h)) (by decide +kernel))
set_option maxRecDepth 20000 in
theorem gL_isBefore_X4_isBefore : GoodIn wsL_isBefore (wsV RL 30 RX4 yX4_isBefore wsX4_isBefore) := goodIn_app (goodIn_of _ (by decide +kernel)) ggL_isBefore_X4_isBefore
theorem dL_isBefore_0 : decode cL_isBefore 0 = .ok (.aload_n 3, 1) := by decide +kernel
theorem dL_isBefore_1 : decode cL_isBefore 1 = .ok (.iconst 0, 1) := by decide +kernel
theorem dL_isBefore_2 : decode cL_isBefore 2 = .ok (.aload_n 0, 1) := by decide +kernel
theorem dL_isBefore_3 : decode cL_isBefore 3 = .ok (.iload_n 1, 1) := by decide +kernel
theorem dL_isBefore_4 : decode cL_isBefore 4 = .ok (.iload_n 2, 1) := by decide +kernel
theorem dL_isBefore_5 : decode cL_isBefore 5 = .ok (.invokevirtual 30, 3) := by decide +kernel
theorem dL_isBefore_8 : decode cL_isBefore 8 = .ok (.ifCond .eq 7, 3) := by decide +kernel
theorem dL_isBefore_11 : decode cL_isBefore 11 = .ok (.lconst 1, 1) := by decide +kernel
theorem dL_isBefore_12 : decode cL_isBefore 12 = .ok (.goto 4, 3) := by decide +kernel
theorem dL_isBefore_15 : decode cL_isBefore 15 = .ok (.lconst 0, 1) := by decide +kernel
theorem dL_isBefore_16 : decode cL_isBefore 16 = .ok (.lastore, 1) := by decide +kernel
theorem dL_isBefore_17 : decode cL_isBefore 17 = .ok (.goto 7, 3) := by decide +kernel
theorem dL_isBefore_20 : decode cL_isBefore 20 = .ok (.astore 4, 2) := by decide +kernel
theorem dL_isBefore_22 : decode cL_isBefore 22 = .ok (.iconst 1, 1) := by decide +kernel
theorem dL_isBefore_23 : decode cL_isBefore 23 = .ok (.ireturn, 1) := by decide +kernel
theorem dL_isBefore_24 : decode cL_isBefore 24 = .ok (.iconst 0, 1) := by decide +kernel
theorem dL_isBefore_25 : decode cL_isBefore 25 = .ok (.ireturn, 1) := by decide +kernel
set_option maxRecDepth 20000 in
theorem ggL_read_X4_read : GoodIn wsL_read wsX4_read := goodIn_ca (goodIn_ca (goodIn_ca (goodIn_r _ [8, 9, 10, 11, 12, 13, 7, 14, 15, 16, 17, 18, 19, 20, 21, 22, 23, 24, 25, 26, 27, 28, 29, 30, 31, 32, 33, 34, 35, 36, 37, 38, 39, 40, 41, 42, 43, 44, 45, 46, 47, 48, 49, 50, 51, 52, 53, 54, 55, 56, 57, 58, 59, 60, 61, 62, 63, 64, 65, 66, 67, 68, 69, 70, 71, 72, 73, 74, 75, 76, 77, 78, 79, 80, 81, 82, 83, 84, 85, 86, 87, 88, 89, 90, 91, 92] (by decide +kernel) (by decide +kernel)) (goodIn_sub (fun _ h => List.mem_cons_of_mem _ (List.mem_append_left _ (List.mem_append_left _ (List.mem_append_right _ h)))) (by decide +kernel))) (goodIn_sub (fun _ h => List.mem_cons_of_mem _ (List.mem_append_left _ (List.mem_append_right _ h))) (by decide +kernel))) (goodIn_sub (fun _ h => List.mem_cons_of_mem _ (List.mem_append_right _ h)) (by decide +kernel))
set_option maxRecDepth 20000 in
theorem gL_read_X4_read : GoodIn wsL_read (wsV RL 34 RX4 yX4_read wsX4_read) := goodIn_app (goodIn_of _ (by decide +kernel)) ggL_read_X4_read
theorem dL_read_0 : decode cL_read 0 = .ok (.aload_n 3, 1) := by decide +kernel
theorem dL_read_1 : decode cL_read 1 = .ok (.iconst 0, 1) := by decide +kernel
theorem dL_read_2 : decode cL_read 2 = .ok (.aload_n 0, 1) := by decide +kernel
theorem dL_read_3 : decode cL_read 3 = .ok (.iload_n 1, 1) := by decide +kernel
theorem dL_read_4 : decode cL_read 4 = .ok (.iload_n 2, 1) := by decide +kernel
theorem dL_read_5 : decode cL_read 5 = .ok (.invokevirtual 34, 3) := by decide +kernel
theorem dL_read_8 : decode cL_read 8 = .ok (.i2l, 1) := by decide +kernel
theorem dL_read_9 : decode cL_read 9 = .ok (.lastore, 1) := by decide +kernel
theorem dL_read_10 : decode cL_read 10 = .ok (.goto 15, 3) := by decide +kernel
theorem dL_read_13 : decode cL_read 13 = .ok (.astore 4, 2) := by decide +kernel
theorem dL_read_15 : decode cL_read 15 = .ok (.iconst 1, 1) := by decide +kernel
theorem dL_read_16 : decode cL_read 16 = .ok (.ireturn, 1) := by decide +kernel
theorem dL_read_17 : decode cL_read 17 = .ok (.astore 4, 2) := by decide +kernel
theorem dL_read_19 : decode cL_read 19 = .ok (.iconst 2, 1) := by decide +kernel
theorem dL_read_20 : decode cL_read 20 = .ok (.ireturn, 1) := by decide +kernel
theorem dL_read_21 : decode cL_read 21 = .ok (.astore 4, 2) := by decide +kernel
theorem dL_read_23 : decode cL_read 23 = .ok (.iconst 3, 1) := by decide +kernel
theorem dL_read_24 : decode cL_read 24 = .ok (.ireturn, 1) := by decide +kernel
theorem dL_read_25 : decode cL_read 25 = .ok (.iconst 0, 1) := by decide +kernel
theorem dL_read_26 : decode cL_read 26 = .ok (.ireturn, 1) := by decide +kernel
set_option maxRecDepth 20000 in
theorem ggL_readPlain_X4_readPlain : GoodIn wsL_readPlain wsX4_readPlain := goodIn_ca (goodIn_ca (goodIn_ca (goodIn_r _ [8, 9, 10, 11, 12, 13, 14, 15, 16, 17, 18, 7, 19, 20, 21, 22, 23, 24, 25, 26, 27, 28, 29, 30, 31, 32, 33, 34, 35, 36, 37, 38, 39, 40, 41, 42, 43, 44, 45, 46, 47, 48, 49, 50, 51, 52, 53, 54, 55, 56, 57, 58, 59, 60, 61, 62, 63, 64, 65, 66, 67, 68] (by decide +kernel) (by decide +kernel)) (goodIn_sub (fun _ h => List.mem_cons_of_mem _ (List.mem_append_left _ (List.mem_append_left _ (List.mem_append_right _ h)))) (by decide +kernel))) (goodIn_sub (fun _ h => List.mem_cons_of_mem _ (List.mem_append_left _ (List.mem_append_right _ h))) (by decide +kernel))) (goodIn_sub (fun _ h => List.mem_cons_of_mem _ (List.mem_append_right _ h)) (by decide +kernel))
set_option maxRecDepth 20000 in
theorem gL_readPlain_X4_readPlain : GoodIn wsL_readPlain (wsV RL 38 RX4 yX4_readPlain wsX4_readPlain) := goodIn_app (goodIn_of _ (by decide +kernel)) ggL_readPlain_X4_readPlain
theorem dL_readPlain_0 : decode cL_readPlain 0 = .ok (.aload_n 3, 1) := by decide +kernel
theorem dL_readPlain_1 : decode cL_readPlain 1 = .ok (.iconst 0, 1) := by decide +kernel
theorem dL_readPlain_2 : decode cL_readPlain 2 = .ok (.aload_n 0, 1) := by decide +kernel
theorem dL_readPlain_3 : decode cL_readPlain 3 = .ok (.iload_n 1, 1) := by decide +kernel
theorem dL_readPlain_4 : decode cL_readPlain 4 = .ok (.iload_n 2, 1) := by decide +kernel
theorem dL_readPlain_5 : decode cL_readPlain 5 = .ok (.invokevirtual 38, 3) := by decide +kernel
theorem dL_readPlain_8 : decode cL_readPlain 8 = .ok (.i2l, 1) := by decide +kernel
theorem dL_readPlain_9 : decode cL_readPlain 9 = .ok (.lastore, 1) := by decide +kernel
theorem dL_readPlain_10 : decode cL_readPlain 10 = .ok (.goto 15, 3) := by decide +kernel
theorem dL_readPlain_13 : decode cL_readPlain 13 = .ok (.astore 4, 2) := by decide +kernel
theorem dL_readPlain_15 : decode cL_readPlain 15 = .ok (.iconst 1, 1) := by decide +kernel
theorem dL_readPlain_16 : decode cL_readPlain 16 = .ok (.ireturn, 1) := by decide +kernel
theorem dL_readPlain_17 : decode cL_readPlain 17 = .ok (.astore 4, 2) := by decide +kernel
theorem dL_readPlain_19 : decode cL_readPlain 19 = .ok (.iconst 2, 1) := by decide +kernel
theorem dL_readPlain_20 : decode cL_readPlain 20 = .ok (.ireturn, 1) := by decide +kernel
theorem dL_readPlain_21 : decode cL_readPlain 21 = .ok (.astore 4, 2) := by decide +kernel
theorem dL_readPlain_23 : decode cL_readPlain 23 = .ok (.iconst 3, 1) := by decide +kernel
theorem dL_readPlain_24 : decode cL_readPlain 24 = .ok (.ireturn, 1) := by decide +kernel
theorem dL_readPlain_25 : decode cL_readPlain 25 = .ok (.iconst 0, 1) := by decide +kernel
theorem dL_readPlain_26 : decode cL_readPlain 26 = .ok (.ireturn, 1) := by decide +kernel
set_option maxRecDepth 20000 in
theorem ggL_write_X4_write : GoodIn wsL_write wsX4_write := goodIn_ca (goodIn_ca (goodIn_ca (goodIn_r _ [8, 9, 10, 11, 12, 13, 14, 15, 16, 17, 7, 18, 19, 20, 21, 22, 23, 24, 25, 26, 27, 28, 29, 30, 31, 32, 33, 34, 35, 36, 37, 38, 39, 40, 41, 42, 43, 44, 45, 46, 47, 48, 49, 50, 51, 52, 53, 54, 55, 56, 57, 58, 59, 60, 61, 62, 63, 64, 65, 66, 67, 68, 69, 70, 71, 72, 73, 74, 75, 76, 77, 78, 79, 80, 81, 82, 83, 84, 85, 86, 87, 88, 89, 90, 91, 92, 93, 94, 95, 96, 97, 98, 99, 100, 101, 102, 103, 104, 105, 106, 107, 108, 109, 110, 111, 112, 113, 114, 115, 116, 117, 118, 119, 120, 121, 122, 123, 124, 125, 126, 127, 128, 129, 130, 131, 132, 133, 134, 135, 136, 137, 138, 139, 140, 141, 142, 143, 144, 145, 146, 147, 148, 149, 150, 151, 152, 153, 154, 155, 156, 157, 158, 159, 160, 161, 162, 163, 164, 165, 166, 167, 168, 169, 170] (by decide +kernel) (by decide +kernel)) (goodIn_sub (fun _ h => List.mem_cons_of_mem _ (List.mem_append_left _ (List.mem_append_left _ (List.mem_append_right _ h)))) (by decide +kernel))) (goodIn_sub (fun _ h => List.mem_cons_of_mem _ (List.mem_append_left _ (List.mem_append_right _ h))) (by decide +kernel))) (goodIn_sub (fun _ h => List.mem_cons_of_mem _ (List.mem_append_right _ h)) (by decide +kernel))
set_option maxRecDepth 20000 in
theorem gL_write_X4_write : GoodIn wsL_write (wsV RL 41 RX4 yX4_write wsX4_write) := goodIn_app (goodIn_of _ (by decide +kernel)) ggL_write_X4_write
theorem dL_write_0 : decode cL_write 0 = .ok (.aload 4, 2) := by decide +kernel
theorem dL_write_2 : decode cL_write 2 = .ok (.iconst 0, 1) := by decide +kernel
theorem dL_write_3 : decode cL_write 3 = .ok (.aload_n 0, 1) := by decide +kernel
theorem dL_write_4 : decode cL_write 4 = .ok (.iload_n 1, 1) := by decide +kernel
theorem dL_write_5 : decode cL_write 5 = .ok (.iload_n 2, 1) := by decide +kernel
theorem dL_write_6 : decode cL_write 6 = .ok (.iload_n 3, 1) := by decide +kernel
theorem dL_write_7 : decode cL_write 7 = .ok (.invokevirtual 41, 3) := by decide +kernel
theorem dL_write_10 : decode cL_write 10 = .ok (.i2l, 1) := by decide +kernel
theorem dL_write_11 : decode cL_write 11 = .ok (.lastore, 1) := by decide +kernel
theorem dL_write_12 : decode cL_write 12 = .ok (.goto 15, 3) := by decide +kernel
theorem dL_write_15 : decode cL_write 15 = .ok (.astore 5, 2) := by decide +kernel
theorem dL_write_17 : decode cL_write 17 = .ok (.iconst 1, 1) := by decide +kernel
theorem dL_write_18 : decode cL_write 18 = .ok (.ireturn, 1) := by decide +kernel
theorem dL_write_19 : decode cL_write 19 = .ok (.astore 5, 2) := by decide +kernel
theorem dL_write_21 : decode cL_write 21 = .ok (.iconst 2, 1) := by decide +kernel
theorem dL_write_22 : decode cL_write 22 = .ok (.ireturn, 1) := by decide +kernel
theorem dL_write_23 : decode cL_write 23 = .ok (.astore 5, 2) := by decide +kernel
theorem dL_write_25 : decode cL_write 25 = .ok (.iconst 3, 1) := by decide +kernel
theorem dL_write_26 : decode cL_write 26 = .ok (.ireturn, 1) := by decide +kernel
theorem dL_write_27 : decode cL_write 27 = .ok (.iconst 0, 1) := by decide +kernel
theorem dL_write_28 : decode cL_write 28 = .ok (.ireturn, 1) := by decide +kernel
set_option maxRecDepth 20000 in
theorem ggL_delete_X4_delete : GoodIn wsL_delete wsX4_delete := goodIn_ca (goodIn_ca (goodIn_ca (goodIn_r _ [8, 9, 10, 11, 7, 12, 13, 14, 15, 16, 17, 18, 19, 20, 21, 22, 23, 24, 25, 26, 27, 28, 29, 30, 31, 32, 33, 34, 35, 36, 37, 38, 39, 40, 41, 42, 43, 44, 45, 46, 47, 48, 49, 50, 51, 52, 53, 54, 55, 56, 57, 58, 59, 60, 61, 62, 63, 64, 65, 66, 67, 68, 69, 70, 71, 72, 73, 74, 75, 76, 77, 78, 79, 80, 81, 82, 83, 84, 85, 86, 87, 88, 89, 90, 91, 92, 93, 94, 95, 96, 97, 98, 99, 100, 101, 102, 103, 104, 105, 106, 107, 108, 109, 110, 111, 112, 113, 114, 115, 116, 117, 118, 119, 120, 121, 122, 123, 124, 125, 126] (by decide +kernel) (by decide +kernel)) (goodIn_sub (fun _ h => List.mem_cons_of_mem _ (List.mem_append_left _ (List.mem_append_left _ (List.mem_append_right _ h)))) (by decide +kernel))) (goodIn_sub (fun _ h => List.mem_cons_of_mem _ (List.mem_append_left _ (List.mem_append_right _ h))) (by decide +kernel))) (goodIn_sub (fun _ h => List.mem_cons_of_mem _ (List.mem_append_right _ h)) (by decide +kernel))
set_option maxRecDepth 20000 in
theorem gL_delete_X4_delete : GoodIn wsL_delete (wsV RL 45 RX4 yX4_delete wsX4_delete) := goodIn_app (goodIn_of _ (by decide +kernel)) ggL_delete_X4_delete
theorem dL_delete_0 : decode cL_delete 0 = .ok (.aload_n 3, 1) := by decide +kernel
theorem dL_delete_1 : decode cL_delete 1 = .ok (.iconst 0, 1) := by decide +kernel
theorem dL_delete_2 : decode cL_delete 2 = .ok (.aload_n 0, 1) := by decide +kernel
theorem dL_delete_3 : decode cL_delete 3 = .ok (.iload_n 1, 1) := by decide +kernel
theorem dL_delete_4 : decode cL_delete 4 = .ok (.iload_n 2, 1) := by decide +kernel
theorem dL_delete_5 : decode cL_delete 5 = .ok (.invokevirtual 45, 3) := by decide +kernel
theorem dL_delete_8 : decode cL_delete 8 = .ok (.ifCond .eq 7, 3) := by decide +kernel
theorem dL_delete_11 : decode cL_delete 11 = .ok (.lconst 1, 1) := by decide +kernel
theorem dL_delete_12 : decode cL_delete 12 = .ok (.goto 4, 3) := by decide +kernel
theorem dL_delete_15 : decode cL_delete 15 = .ok (.lconst 0, 1) := by decide +kernel
theorem dL_delete_16 : decode cL_delete 16 = .ok (.lastore, 1) := by decide +kernel
theorem dL_delete_17 : decode cL_delete 17 = .ok (.goto 15, 3) := by decide +kernel
theorem dL_delete_20 : decode cL_delete 20 = .ok (.astore 4, 2) := by decide +kernel
theorem dL_delete_22 : decode cL_delete 22 = .ok (.iconst 1, 1) := by decide +kernel
theorem dL_delete_23 : decode cL_delete 23 = .ok (.ireturn, 1) := by decide +kernel
theorem dL_delete_24 : decode cL_delete 24 = .ok (.astore 4, 2) := by decide +kernel
theorem dL_delete_26 : decode cL_delete 26 = .ok (.iconst 2, 1) := by decide +kernel
theorem dL_delete_27 : decode cL_delete 27 = .ok (.ireturn, 1) := by decide +kernel
theorem dL_delete_28 : decode cL_delete 28 = .ok (.astore 4, 2) := by decide +kernel
theorem dL_delete_30 : decode cL_delete 30 = .ok (.iconst 3, 1) := by decide +kernel
theorem dL_delete_31 : decode cL_delete 31 = .ok (.ireturn, 1) := by decide +kernel
theorem dL_delete_32 : decode cL_delete 32 = .ok (.iconst 0, 1) := by decide +kernel
theorem dL_delete_33 : decode cL_delete 33 = .ok (.ireturn, 1) := by decide +kernel
set_option maxRecDepth 20000 in
theorem ggL_clean_X4_clean : GoodIn wsL_clean wsX4_clean := goodIn_ca (goodIn_r _ [6, 7, 8, 9, 10, 5, 11, 12, 13, 14, 15, 16, 17, 18, 19, 20, 21, 22, 23, 24, 25, 26, 27, 28, 29, 30, 31, 32, 33, 34, 35, 36, 37, 38, 39, 40, 41, 42, 43, 44, 45, 46, 47, 48, 49, 50, 51, 52, 53, 54, 55, 56, 57, 58, 59, 60, 61, 62, 63, 64, 65, 66, 67, 68, 69, 70, 71, 72, 73, 74, 75, 76, 77, 78, 79, 80, 81, 82, 83, 84, 85, 86, 87, 88, 89, 90, 91, 92, 93, 94, 95, 96, 97, 98, 99, 100, 101, 102, 103, 104, 105, 106, 107, 108, 109, 110, 111, 112, 113, 114, 115, 116, 117, 118, 119, 120, 121, 122, 123, 124, 125, 126, 127, 128, 129, 130, 131, 132, 133, 134] (by decide +kernel) (by decide +kernel)) (goodIn_sub (fun _ h => List.mem_cons_of_mem _ (List.mem_append_right _ h)) (by decide +kernel))
set_option maxRecDepth 20000 in
theorem gL_clean_X4_clean : GoodIn wsL_clean (wsV RL 48 RX4 yX4_clean wsX4_clean) := goodIn_app (goodIn_of _ (by decide +kernel)) ggL_clean_X4_clean
theorem dL_clean_0 : decode cL_clean 0 = .ok (.aload_n 2, 1) := by decide +kernel
theorem dL_clean_1 : decode cL_clean 1 = .ok (.iconst 0, 1) := by decide +kernel
theorem dL_clean_2 : decode cL_clean 2 = .ok (.aload_n 0, 1) := by decide +kernel
theorem dL_clean_3 : decode cL_clean 3 = .ok (.iload_n 1, 1) := by decide +kernel
theorem dL_clean_4 : decode cL_clean 4 = .ok (.invokevirtual 48, 3) := by decide +kernel
theorem dL_clean_7 : decode cL_clean 7 = .ok (.i2l, 1) := by decide +kernel
theorem dL_clean_8 : decode cL_clean 8 = .ok (.lastore, 1) := by decide +kernel
theorem dL_clean_9 : decode cL_clean 9 = .ok (.goto 6, 3) := by decide +kernel
theorem dL_clean_12 : decode cL_clean 12 = .ok (.astore_n 3, 1) := by decide +kernel
theorem dL_clean_13 : decode cL_clean 13 = .ok (.iconst 1, 1) := by decide +kernel
theorem dL_clean_14 : decode cL_clean 14 = .ok (.ireturn, 1) := by decide +kernel
theorem dL_clean_15 : decode cL_clean 15 = .ok (.iconst 0, 1) := by decide +kernel
theorem dL_clean_16 : decode cL_clean 16 = .ok (.ireturn, 1) := by decide +kernel
set_option maxRecDepth 20000 in
theorem ggL_setFreezing_X4_setFreezing : GoodIn wsL_setFreezing wsX4_setFreezing := goodIn_ca (goodIn_r _ [6, 7, 8, 9, 10, 11, 12, 13, 14, 15] (by decide +kernel) (by decide +kernel)) (goodIn_sub (fun _ h => List.mem_cons_of_mem _ (List.mem_append_right _ h)) (by decide +kernel))
set_option maxRecDepth 20000 in
theorem gL_setFreezing_X4_setFreezing : GoodIn wsL_setFreezing (wsV RL 51 RX4 yX4_setFreezing wsX4_setFreezing) := goodIn_app (goodIn_of _ (by decide +kernel)) ggL_setFreezing_X4_setFreezing
theorem dL_setFreezing_0 : decode cL_setFreezing 0 = .ok (.aload_n 2, 1) := by decide +kernel
theorem dL_setFreezing_1 : decode cL_setFreezing 1 = .ok (.iconst 0, 1) := by decide +kernel
theorem dL_setFreezing_2 : decode cL_setFreezing 2 = .ok (.aload_n 0, 1) := by decide +kernel
theorem dL_setFreezing_3 : decode cL_setFreezing 3 = .ok (.iload_n 1, 1) := by decide +kernel
theorem dL_setFreezing_4 : decode cL_setFreezing 4 = .ok (.invokevirtual 51, 3) := by decide +kernel
theorem dL_setFreezing_7 : decode cL_setFreezing 7 = .ok (.i2l, 1) := by decide +kernel
theorem dL_setFreezing_8 : decode cL_setFreezing 8 = .ok (.lastore, 1) := by decide +kernel
theorem dL_setFreezing_9 : decode cL_setFreezing 9 = .ok (.goto 6, 3) := by decide +kernel
theorem dL_setFreezing_12 : decode cL_setFreezing 12 = .ok (.astore_n 3, 1) := by decide +kernel
theorem dL_setFreezing_13 : decode cL_setFreezing 13 = .ok (.iconst 1, 1) := by decide +kernel
theorem dL_setFreezing_14 : decode cL_setFreezing 14 = .ok (.ireturn, 1) := by decide +kernel
theorem dL_setFreezing_15 : decode cL_setFreezing 15 = .ok (.iconst 0, 1) := by decide +kernel
theorem dL_setFreezing_16 : decode cL_setFreezing 16 = .ok (.ireturn, 1) := by decide +kernel
set_option maxRecDepth 20000 in
theorem ggL_isMapped_X4_isMapped : GoodIn wsL_isMapped wsX4_isMapped := goodIn_ca (goodIn_r _ [6, 7, 8, 9, 5, 10, 11, 12, 13, 14, 15, 16, 17, 18] (by decide +kernel) (by decide +kernel)) (goodIn_sub (fun _ h => List.mem_cons_of_mem _ (List.mem_append_right _ h)) (by decide +kernel))
set_option maxRecDepth 20000 in
theorem gL_isMapped_X4_isMapped : GoodIn wsL_isMapped (wsV RL 54 RX4 yX4_isMapped wsX4_isMapped) := goodIn_app (goodIn_of _ (by decide +kernel)) ggL_isMapped_X4_isMapped
theorem dL_isMapped_0 : decode cL_isMapped 0 = .ok (.aload_n 2, 1) := by decide +kernel
theorem dL_isMapped_1 : decode cL_isMapped 1 = .ok (.iconst 0, 1) := by decide +kernel
theorem dL_isMapped_2 : decode cL_isMapped 2 = .ok (.aload_n 0, 1) := by decide +kernel
theorem dL_isMapped_3 : decode cL_isMapped 3 = .ok (.iload_n 1, 1) := by decide +kernel
theorem dL_isMapped_4 : decode cL_isMapped 4 = .ok (.invokevirtual 54, 3) := by decide +kernel
theorem dL_isMapped_7 : decode cL_isMapped 7 = .ok (.ifCond .eq 7, 3) := by decide +kernel
theorem dL_isMapped_10 : decode cL_isMapped 10 = .ok (.lconst 1, 1) := by decide +kernel
theorem dL_isMapped_11 : decode cL_isMapped 11 = .ok (.goto 4, 3) := by decide +kernel
theorem dL_isMapped_14 : decode cL_isMapped 14 = .ok (.lconst 0, 1) := by decide +kernel
theorem dL_isMapped_15 : decode cL_isMapped 15 = .ok (.lastore, 1) := by decide +kernel
theorem dL_isMapped_16 : decode cL_isMapped 16 = .ok (.goto 6, 3) := by decide +kernel
theorem dL_isMapped_19 : decode cL_isMapped 19 = .ok (.astore_n 3, 1) := by decide +kernel
theorem dL_isMapped_20 : decode cL_isMapped 20 = .ok (.iconst 1, 1) := by decide +kernel
theorem dL_isMapped_21 : decode cL_isMapped 21 = .ok (.ireturn, 1) := by decide +kernel
theorem dL_isMapped_22 : decode cL_isMapped 22 = .ok (.iconst 0, 1) := by decide +kernel
theorem dL_isMapped_23 : decode cL_isMapped 23 = .ok (.ireturn, 1) := by decide +kernel
set_option maxRecDepth 20000 in
theorem ggL_isWhole_X4_isWhole : GoodIn wsL_isWhole wsX4_isWhole := goodIn_ca (goodIn_r _ [6, 7, 8, 9, 10, 5, 11, 12, 13, 14, 15, 16, 17, 18, 19, 20, 21, 22, 23, 24, 25, 26, 27, 28, 29, 30, 31, 32, 33, 34, 35, 36, 37, 38, 39, 40, 41, 42, 43, 44, 45, 46, 47, 48, 49, 50, 51, 52, 53, 54, 55, 56, 57, 58, 59, 60, 61, 62, 63, 64, 65, 66, 67, 68, 69, 70, 71] (by decide +kernel) (by decide +kernel)) (goodIn_sub (fun _ h => List.mem_cons_of_mem _ (List.mem_append_right _ h)) (by decide +kernel))
set_option maxRecDepth 20000 in
theorem gL_isWhole_X4_isWhole : GoodIn wsL_isWhole (wsV RL 58 RX4 yX4_isWhole wsX4_isWhole) := goodIn_app (goodIn_of _ (by decide +kernel)) ggL_isWhole_X4_isWhole
theorem dL_isWhole_0 : decode cL_isWhole 0 = .ok (.aload_n 2, 1) := by decide +kernel
theorem dL_isWhole_1 : decode cL_isWhole 1 = .ok (.iconst 0, 1) := by decide +kernel
theorem dL_isWhole_2 : decode cL_isWhole 2 = .ok (.aload_n 0, 1) := by decide +kernel
theorem dL_isWhole_3 : decode cL_isWhole 3 = .ok (.iload_n 1, 1) := by decide +kernel
theorem dL_isWhole_4 : decode cL_isWhole 4 = .ok (.invokevirtual 58, 3) := by decide +kernel
theorem dL_isWhole_7 : decode cL_isWhole 7 = .ok (.ifCond .eq 7, 3) := by decide +kernel
theorem dL_isWhole_10 : decode cL_isWhole 10 = .ok (.lconst 1, 1) := by decide +kernel
theorem dL_isWhole_11 : decode cL_isWhole 11 = .ok (.goto 4, 3) := by decide +kernel
theorem dL_isWhole_14 : decode cL_isWhole 14 = .ok (.lconst 0, 1) := by decide +kernel
theorem dL_isWhole_15 : decode cL_isWhole 15 = .ok (.lastore, 1) := by decide +kernel
theorem dL_isWhole_16 : decode cL_isWhole 16 = .ok (.goto 6, 3) := by decide +kernel
theorem dL_isWhole_19 : decode cL_isWhole 19 = .ok (.astore_n 3, 1) := by decide +kernel
theorem dL_isWhole_20 : decode cL_isWhole 20 = .ok (.iconst 1, 1) := by decide +kernel
theorem dL_isWhole_21 : decode cL_isWhole 21 = .ok (.ireturn, 1) := by decide +kernel
theorem dL_isWhole_22 : decode cL_isWhole 22 = .ok (.iconst 0, 1) := by decide +kernel
theorem dL_isWhole_23 : decode cL_isWhole 23 = .ok (.ireturn, 1) := by decide +kernel
set_option maxRecDepth 20000 in
theorem ggL_slot_X4_slot : GoodIn wsL_slot wsX4_slot := goodIn_ca (goodIn_r _ [6, 7, 8, 9, 10, 11, 12, 5, 13, 14, 15, 16, 17, 18, 19, 20, 21, 22, 23, 24, 25, 26, 27, 28, 29, 30, 31, 32, 33, 34, 35, 36, 37, 38, 39, 40, 41, 42, 43, 44, 45, 46, 47, 48, 49, 50, 51, 52, 53] (by decide +kernel) (by decide +kernel)) (goodIn_sub (fun _ h => List.mem_cons_of_mem _ (List.mem_append_right _ h)) (by decide +kernel))
set_option maxRecDepth 20000 in
theorem gL_slot_X4_slot : GoodIn wsL_slot (wsV RL 61 RX4 yX4_slot wsX4_slot) := goodIn_app (goodIn_of _ (by decide +kernel)) ggL_slot_X4_slot
theorem dL_slot_0 : decode cL_slot 0 = .ok (.aload_n 3, 1) := by decide +kernel
theorem dL_slot_1 : decode cL_slot 1 = .ok (.iconst 0, 1) := by decide +kernel
theorem dL_slot_2 : decode cL_slot 2 = .ok (.aload_n 0, 1) := by decide +kernel
theorem dL_slot_3 : decode cL_slot 3 = .ok (.iload_n 1, 1) := by decide +kernel
theorem dL_slot_4 : decode cL_slot 4 = .ok (.iload_n 2, 1) := by decide +kernel
theorem dL_slot_5 : decode cL_slot 5 = .ok (.invokevirtual 61, 3) := by decide +kernel
theorem dL_slot_8 : decode cL_slot 8 = .ok (.i2l, 1) := by decide +kernel
theorem dL_slot_9 : decode cL_slot 9 = .ok (.lastore, 1) := by decide +kernel
theorem dL_slot_10 : decode cL_slot 10 = .ok (.goto 7, 3) := by decide +kernel
theorem dL_slot_13 : decode cL_slot 13 = .ok (.astore 4, 2) := by decide +kernel
theorem dL_slot_15 : decode cL_slot 15 = .ok (.iconst 1, 1) := by decide +kernel
theorem dL_slot_16 : decode cL_slot 16 = .ok (.ireturn, 1) := by decide +kernel
theorem dL_slot_17 : decode cL_slot 17 = .ok (.iconst 0, 1) := by decide +kernel
theorem dL_slot_18 : decode cL_slot 18 = .ok (.ireturn, 1) := by decide +kernel
set_option maxRecDepth 20000 in
theorem ggL_entries_X4_entries : GoodIn wsL_entries wsX4_entries := goodIn_ca (goodIn_r _ [6, 7, 8, 9, 10, 5, 11, 12, 13, 14, 15, 16, 17, 18, 19, 20, 21] (by decide +kernel) (by decide +kernel)) (goodIn_sub (fun _ h => List.mem_cons_of_mem _ (List.mem_append_right _ h)) (by decide +kernel))
set_option maxRecDepth 20000 in
theorem gL_entries_X4_entries : GoodIn wsL_entries (wsV RL 64 RX4 yX4_entries wsX4_entries) := goodIn_app (goodIn_of _ (by decide +kernel)) ggL_entries_X4_entries
theorem dL_entries_0 : decode cL_entries 0 = .ok (.aload_n 2, 1) := by decide +kernel
theorem dL_entries_1 : decode cL_entries 1 = .ok (.iconst 0, 1) := by decide +kernel
theorem dL_entries_2 : decode cL_entries 2 = .ok (.aload_n 0, 1) := by decide +kernel
theorem dL_entries_3 : decode cL_entries 3 = .ok (.iload_n 1, 1) := by decide +kernel
theorem dL_entries_4 : decode cL_entries 4 = .ok (.invokevirtual 64, 3) := by decide +kernel
theorem dL_entries_7 : decode cL_entries 7 = .ok (.i2l, 1) := by decide +kernel
theorem dL_entries_8 : decode cL_entries 8 = .ok (.lastore, 1) := by decide +kernel
theorem dL_entries_9 : decode cL_entries 9 = .ok (.goto 6, 3) := by decide +kernel
theorem dL_entries_12 : decode cL_entries 12 = .ok (.astore_n 3, 1) := by decide +kernel
theorem dL_entries_13 : decode cL_entries 13 = .ok (.iconst 1, 1) := by decide +kernel
theorem dL_entries_14 : decode cL_entries 14 = .ok (.ireturn, 1) := by decide +kernel
theorem dL_entries_15 : decode cL_entries 15 = .ok (.iconst 0, 1) := by decide +kernel
theorem dL_entries_16 : decode cL_entries 16 = .ok (.ireturn, 1) := by decide +kernel
set_option maxRecDepth 20000 in
theorem ggL_fullness_X4_fullness : GoodIn wsL_fullness wsX4_fullness := goodIn_ca (goodIn_r _ [6, 7, 8, 9, 10, 5, 11, 12, 13, 14, 15, 16, 17, 18, 19, 20, 21, 22, 23, 24, 25, 26, 27, 28, 29, 30, 31, 32, 33, 34, 35, 36, 37] (by decide +kernel) (by decide +kernel)) (goodIn_sub (fun _ h => List.mem_cons_of_mem _ (List.mem_append_right _ h)) (by decide +kernel))
set_option maxRecDepth 20000 in
theorem gL_fullness_X4_fullness : GoodIn wsL_fullness (wsV RL 67 RX4 yX4_fullness wsX4_fullness) := goodIn_app (goodIn_of _ (by decide +kernel)) ggL_fullness_X4_fullness
theorem dL_fullness_0 : decode cL_fullness 0 = .ok (.aload_n 2, 1) := by decide +kernel
theorem dL_fullness_1 : decode cL_fullness 1 = .ok (.iconst 0, 1) := by decide +kernel
theorem dL_fullness_2 : decode cL_fullness 2 = .ok (.aload_n 0, 1) := by decide +kernel
theorem dL_fullness_3 : decode cL_fullness 3 = .ok (.iload_n 1, 1) := by decide +kernel
theorem dL_fullness_4 : decode cL_fullness 4 = .ok (.invokevirtual 67, 3) := by decide +kernel
theorem dL_fullness_7 : decode cL_fullness 7 = .ok (.f2d, 1) := by decide +kernel
theorem dL_fullness_8 : decode cL_fullness 8 = .ok (.dastore, 1) := by decide +kernel
theorem dL_fullness_9 : decode cL_fullness 9 = .ok (.goto 6, 3) := by decide +kernel
theorem dL_fullness_12 : decode cL_fullness 12 = .ok (.astore_n 3, 1) := by decide +kernel
theorem dL_fullness_13 : decode cL_fullness 13 = .ok (.iconst 1, 1) := by decide +kernel
theorem dL_fullness_14 : decode cL_fullness 14 = .ok (.ireturn, 1) := by decide +kernel
theorem dL_fullness_15 : decode cL_fullness 15 = .ok (.iconst 0, 1) := by decide +kernel
theorem dL_fullness_16 : decode cL_fullness 16 = .ok (.ireturn, 1) := by decide +kernel
set_option maxRecDepth 20000 in
theorem ggL_law_X4_init : GoodIn wsL_law wsX4_init := goodIn_r _ [10, 11, 12, 13, 14, 15, 16, 17, 18, 19, 20, 21, 22, 23, 24, 25, 26, 27, 28, 29, 30, 31, 32, 33, 34, 35, 36, 37, 6, 38, 39, 40, 41, 42, 43, 44, 45, 46, 47, 48, 49, 50, 51, 52, 53, 54, 55, 56, 57, 58, 59, 60, 61, 62, 63, 64, 65, 66, 67, 68, 626, 627, 628, 629, 630, 631, 603, 604, 605, 606, 607, 608, 632, 633, 634, 635, 636, 637, 638, 639, 640, 641, 642, 643, 644, 645, 646, 647] (by decide +kernel) (by decide +kernel)
set_option maxRecDepth 20000 in
theorem gL_law_X4_init : GoodIn wsL_law (wsX4_init) := ggL_law_X4_init
set_option maxRecDepth 20000 in
theorem ggL_law_X5_init : GoodIn wsL_law wsX5_init := goodIn_r _ [71, 72, 12, 13, 73, 36, 74, 75, 6, 76, 30, 77, 78, 79, 80, 81, 82, 83, 84, 85, 86, 609, 610, 611, 612, 613, 614, 615, 616, 617, 618, 619, 620, 621, 622, 623, 624, 625] (by decide +kernel) (by decide +kernel)
set_option maxRecDepth 20000 in
theorem gL_law_X5_init : GoodIn wsL_law (wsX5_init) := ggL_law_X5_init
set_option maxRecDepth 20000 in
theorem ggL_law_L_begin : GoodIn wsL_law wsL_begin := goodIn_ca (goodIn_r _ [90, 91, 92, 93, 94, 2, 95, 96, 97, 17, 98, 99, 100, 16, 101, 102, 103, 104, 105, 106, 21, 107, 108, 109, 110, 111, 112, 113, 114, 115, 116, 117, 37, 118, 119, 120, 121, 122, 123, 124, 125, 126, 127, 128, 129, 130, 131, 132, 133, 134, 135, 136, 137, 138, 139, 140, 20, 141, 43, 142, 143, 144, 145, 146, 48, 147, 148, 149, 150, 38, 151, 152, 153, 154, 155, 603, 604, 605, 606, 607, 608, 626, 627, 628, 629, 630, 631, 632, 633, 634, 635, 636, 637, 638, 639, 640] (by decide +kernel) (by decide +kernel)) (goodIn_sub (fun _ h => List.mem_append_left _ (List.mem_append_left _ (List.mem_append_right _ h))) (by decide +kernel))
set_option maxRecDepth 20000 in
theorem gL_law_L_begin : GoodIn wsL_law (va_wsS RL 75 yL_begin wsL_begin) := goodIn_app (goodIn_of _ (by decide +kernel)) ggL_law_L_begin
set_option maxRecDepth 20000 in
theorem ggL_law_X5_begin : GoodIn wsL_law wsX5_begin := goodIn_r _ [159, 160, 75, 76, 74, 161, 162, 163, 164, 5, 165, 77, 81, 80, 82, 166, 167, 168, 169, 170, 171, 172, 173, 174, 175, 176, 177, 178, 609, 610, 611, 612, 613, 614, 615, 616, 617, 618, 619, 620, 621, 622, 623, 624, 625] (by decide +kernel) (by decide +kernel)
set_option maxRecDepth 20000 in
theorem gL_law_X5_begin : GoodIn wsL_law (wsV RL 80 RX5 yX5_begin wsX5_begin) := goodIn_app (goodIn_of _ (by decide +kernel)) ggL_law_X5_begin
set_option maxRecDepth 20000 in
theorem ggL_law_X5_thrown : GoodIn wsL_law wsX5_thrown := goodIn_r _ [182, 178, 609, 610, 611, 612, 613, 614, 615, 616, 617, 618, 619, 620, 621, 622, 623, 624, 625] (by decide +kernel) (by decide +kernel)
set_option maxRecDepth 20000 in
theorem gL_law_X5_thrown : GoodIn wsL_law (wsV RL 81 RX5 yX5_thrown wsX5_thrown) := goodIn_app (goodIn_of _ (by decide +kernel)) ggL_law_X5_thrown
set_option maxRecDepth 20000 in
theorem ggL_law_L_end : GoodIn wsL_law wsL_end := goodIn_ca (goodIn_ca (goodIn_r _ [185, 186, 91, 187, 188, 189, 2, 190, 17, 21, 29, 191, 192, 193, 194, 195, 196, 197, 198, 199, 16, 200, 102, 201, 202, 203, 204, 96, 97, 205, 120, 121, 122, 123, 124, 125, 126, 206, 207, 208, 209, 210, 151, 211, 212, 213, 20, 214, 48, 215, 216, 217, 28, 218, 219, 68, 220, 221, 222, 223, 224, 225, 226, 227, 228, 229, 230, 603, 604, 605, 606, 607, 608, 626, 627, 628, 629, 630, 631, 632, 633, 634, 635, 636, 637, 638, 639, 640, 643, 644, 645, 646, 647] (by decide +kernel) (by decide +kernel)) (goodIn_sub (fun _ h => List.mem_append_left _ (List.mem_append_right _ h)) (by decide +kernel))) (goodIn_sub (fun _ h => List.mem_append_left _ (List.mem_append_left _ (List.mem_append_right _ h))) (by decide +kernel))
set_option maxRecDepth 20000 in
theorem gL_law_L_end : GoodIn wsL_law (va_wsS RL 84 yL_end wsL_end) := goodIn_app (goodIn_of _ (by decide +kernel)) ggL_law_L_end
set_option maxRecDepth 20000 in
theorem ggL_law_X5_end : GoodIn wsL_law wsX5_end := goodIn_r _ [234, 75, 82, 77, 160, 235, 236, 237, 5, 238, 239, 240, 241, 170, 171, 172, 173, 174, 175, 176, 177, 178, 609, 610, 611, 612, 613, 614, 615, 616, 617, 618, 619, 620, 621, 622, 623, 624, 625] (by decide +kernel) (by decide +kernel)
set_option maxRecDepth 20000 in
theorem gL_law_X5_end : GoodIn wsL_law (wsV RL 87 RX5 yX5_end wsX5_end) := goodIn_app (goodIn_of _ (by decide +kernel)) ggL_law_X5_end
set_option maxRecDepth 20000 in
theorem ggL_law_L_jump : GoodIn wsL_law wsL_jump := goodIn_ca (goodIn_ca (goodIn_r _ [244, 245, 91, 246, 247, 248, 2, 249, 250, 251, 96, 97, 17, 103, 104, 105, 106, 21, 107, 108, 109, 110, 111, 112, 113, 114, 115, 116, 16, 117, 102, 37, 118, 119, 120, 121, 122, 123, 124, 125, 126, 127, 128, 129, 130, 131, 132, 133, 134, 135, 136, 137, 138, 139, 140, 20, 141, 43, 142, 143, 144, 145, 146, 48, 252, 153, 154, 155, 603, 604, 605, 606, 607, 608, 632, 633, 634, 635, 636, 637, 638, 639, 640, 626, 627, 628, 629, 630, 631] (by decide +kernel) (by decide +kernel)) (goodIn_sub (fun _ h => List.mem_append_right _ h) (by decide +kernel))) (goodIn_sub (fun _ h => List.mem_append_left _ (List.mem_append_left _ (List.mem_append_right _ h))) (by decide +kernel))
set_option maxRecDepth 20000 in
theorem gL_law_L_jump : GoodIn wsL_law (va_wsS RL 88 yL_jump wsL_jump) := goodIn_app (goodIn_of _ (by decide +kernel)) ggL_law_L_jump
set_option maxRecDepth 20000 in
theorem ggL_law_X5_jump : GoodIn wsL_law wsX5_jump := goodIn_r _ [256, 161, 239, 240, 5, 241, 162, 163, 164, 165, 77, 81, 80, 82, 160, 166, 167, 168, 169, 74, 170, 171, 172, 173, 75, 174, 175, 176, 177, 178, 609, 610, 611, 612, 613, 614, 615, 616, 617, 618, 619, 620, 621, 622, 623, 624, 625] (by decide +kernel) (by decide +kernel)
set_option maxRecDepth 20000 in
theorem gL_law_X5_jump : GoodIn wsL_law (wsV RL 91 RX5 yX5_jump wsX5_jump) := goodIn_app (goodIn_of _ (by decide +kernel)) ggL_law_X5_jump
set_option maxRecDepth 20000 in
theorem ggL_law_L_stamp : GoodIn wsL_law wsL_stamp := goodIn_ca (goodIn_r _ [259, 186, 260, 261, 262, 2, 263, 17, 264, 191, 192, 193, 194, 195, 196, 197, 198, 199, 16, 200, 102, 603, 604, 605, 606, 607, 608, 626, 627, 628, 629, 630, 631] (by decide +kernel) (by decide +kernel)) (goodIn_sub (fun _ h => List.mem_append_left _ (List.mem_append_right _ h)) (by decide +kernel))
set_option maxRecDepth 20000 in
theorem gL_law_L_stamp : GoodIn wsL_law (va_wsS RL 92 yL_stamp wsL_stamp) := goodIn_app (goodIn_of _ (by decide +kernel)) ggL_law_L_stamp
set_option maxRecDepth 20000 in
theorem ggL_law_X5_stamp : GoodIn wsL_law wsX5_stamp := goodIn_r _ [268, 74, 235, 236, 237, 5, 238, 160, 239, 240, 241, 174, 175, 176, 177, 178, 609, 610, 611, 612, 613, 614, 615, 616, 617, 618, 619, 620, 621, 622, 623, 624, 625] (by decide +kernel) (by decide +kernel)
set_option maxRecDepth 20000 in
theorem gL_law_X5_stamp : GoodIn wsL_law (wsV RL 94 RX5 yX5_stamp wsX5_stamp) := goodIn_app (goodIn_of _ (by decide +kernel)) ggL_law_X5_stamp
set_option maxRecDepth 20000 in
theorem ggL_law_L_isBefore : GoodIn wsL_law wsL_isBefore := goodIn_ca (goodIn_r _ [271, 245, 272, 273, 274, 2, 275, 276, 277, 278, 250, 251, 279, 132, 133, 134, 135, 136, 137] (by decide +kernel) (by decide +kernel)) (goodIn_sub (fun _ h => List.mem_append_right _ h) (by decide +kernel))
set_option maxRecDepth 20000 in
theorem gL_law_L_isBefore : GoodIn wsL_law (va_wsS RL 95 yL_isBefore wsL_isBefore) := goodIn_app (goodIn_of _ (by decide +kernel)) ggL_law_L_isBefore
set_option maxRecDepth 20000 in
theorem ggL_law_X5_isBefore : GoodIn wsL_law wsX5_isBefore := goodIn_r _ [283, 239, 240, 5, 241, 174, 175, 176, 177, 178, 609, 610, 611, 612, 613, 614, 615, 616, 617, 618, 619, 620, 621, 622, 623, 624, 625] (by decide +kernel) (by decide +kernel)
set_option maxRecDepth 20000 in
theorem gL_law_X5_isBefore : GoodIn wsL_law (wsV RL 98 RX5 yX5_isBefore wsX5_isBefore) := goodIn_app (goodIn_of _ (by decide +kernel)) ggL_law_X5_isBefore
set_option maxRecDepth 20000 in
theorem ggL_law_L_read : GoodIn wsL_law wsL_read := goodIn_ca (goodIn_ca (goodIn_ca (goodIn_r _ [286, 186, 245, 91, 287, 288, 289, 2, 290, 21, 291, 191, 192, 193, 194, 195, 196, 17, 197, 198, 199, 16, 200, 102, 292, 293, 294, 250, 251, 201, 202, 203, 204, 96, 97, 205, 120, 121, 122, 123, 124, 125, 126, 295, 296, 297, 298, 25, 299, 300, 301, 302, 303, 304, 305, 306, 307, 308, 309, 310, 311, 312, 107, 313, 314, 315, 316, 317, 318, 38, 603, 604, 605, 606, 607, 608, 632, 633, 634, 635, 636, 637, 638, 639, 640, 626, 627, 628, 629, 630, 631, 641, 642] (by decide +kernel) (by decide +kernel)) (goodIn_sub (fun _ h => List.mem_append_left _ (List.mem_append_right _ h)) (by decide +kernel))) (goodIn_sub (fun _ h => List.mem_append_right _ h) (by decide +kernel))) (goodIn_sub (fun _ h => List.mem_append_left _ (List.mem_append_left _ (List.mem_append_right _ h))) (by decide +kernel))
set_option maxRecDepth 20000 in
theorem gL_law_L_read : GoodIn wsL_law (va_wsS RL 99 yL_read wsL_read) := goodIn_app (goodIn_of _ (by decide +kernel)) ggL_law_L_read
set_option maxRecDepth 20000 in
theorem ggL_law_X5_read : GoodIn wsL_law wsX5_read := goodIn_r _ [322, 323, 324, 325, 5, 326, 79, 235, 236, 237, 238, 160, 239, 240, 241, 327, 328, 329, 170, 171, 172, 173, 75, 174, 175, 176, 177, 178, 330, 331, 332, 333, 86, 85, 83, 334, 335, 336, 337, 81, 80, 82, 338, 339, 340, 341, 342, 343, 344, 345, 76, 609, 610, 611, 612, 613, 614, 615, 616, 617, 618, 619, 620, 621, 622, 623, 624, 625] (by decide +kernel) (by decide +kernel)
set_option maxRecDepth 20000 in
theorem gL_law_X5_read : GoodIn wsL_law (wsV RL 101 RX5 yX5_read wsX5_read) := goodIn_app (goodIn_of _ (by decide +kernel)) ggL_law_X5_read
set_option maxRecDepth 20000 in
theorem ggL_law_L_readPlain : GoodIn wsL_law wsL_readPlain := goodIn_ca (goodIn_ca (goodIn_ca (goodIn_r _ [348, 186, 245, 91, 349, 350, 351, 2, 352, 29, 353, 354, 17, 355, 356, 357, 191, 192, 193, 194, 195, 196, 197, 198, 199, 16, 200, 102, 292, 293, 294, 250, 251, 201, 202, 203, 204, 96, 97, 205, 120, 121, 122, 123, 124, 125, 126, 315, 316, 317, 318, 38, 603, 604, 605, 606, 607, 608, 643, 644, 645, 646, 647, 626, 627, 628, 629, 630, 631] (by decide +kernel) (by decide +kernel)) (goodIn_sub (fun _ h => List.mem_append_left _ (List.mem_append_right _ h)) (by decide +kernel))) (goodIn_sub (fun _ h => List.mem_append_right _ h) (by decide +kernel))) (goodIn_sub (fun _ h => List.mem_append_left _ (List.mem_append_left _ (List.mem_append_right _ h))) (by decide +kernel))
set_option maxRecDepth 20000 in
theorem gL_law_L_readPlain : GoodIn wsL_law (va_wsS RL 102 yL_readPlain wsL_readPlain) := goodIn_app (goodIn_of _ (by decide +kernel)) ggL_law_L_readPlain
set_option maxRecDepth 20000 in
theorem ggL_law_X5_readPlain : GoodIn wsL_law wsX5_readPlain := goodIn_r _ [361, 323, 324, 325, 5, 326, 79, 235, 236, 237, 238, 160, 239, 240, 241, 327, 328, 329, 170, 171, 172, 173, 75, 174, 175, 176, 177, 178, 330, 331, 332, 333, 86, 85, 83, 334, 335, 336, 337, 81, 80, 82, 338, 339, 340, 341, 342, 343, 344, 345, 76, 609, 610, 611, 612, 613, 614, 615, 616, 617, 618, 619, 620, 621, 622, 623, 624, 625] (by decide +kernel) (by decide +kernel)
set_option maxRecDepth 20000 in
theorem gL_law_X5_readPlain : GoodIn wsL_law (wsV RL 104 RX5 yX5_readPlain wsX5_readPlain) := goodIn_app (goodIn_of _ (by decide +kernel)) ggL_law_X5_readPlain
set_option maxRecDepth 20000 in
theorem ggL_law_L_write : GoodIn wsL_law wsL_write := goodIn_ca (goodIn_ca (goodIn_ca (goodIn_r _ [364, 186, 245, 91, 365, 366, 367, 2, 368, 96, 97, 21, 305, 25, 369, 191, 192, 193, 194, 195, 196, 17, 197, 198, 199, 16, 200, 102, 292, 293, 294, 250, 251, 370, 371, 372, 201, 202, 203, 204, 205, 120, 121, 122, 123, 124, 125, 126, 373, 374, 375, 376, 377, 313, 314, 378, 379, 380, 381, 151, 382, 316, 317, 318, 38, 295, 296, 297, 298, 299, 300, 301, 302, 303, 304, 306, 307, 308, 309, 310, 311, 312, 107, 315, 383, 384, 385, 386, 387, 388, 389, 390, 391, 392, 393, 394, 395, 20, 396, 397, 139, 140, 141, 43, 398, 399, 400, 401, 113, 264, 29, 402, 31, 403, 404, 405, 28, 406, 219, 68, 407, 408, 409, 410, 291, 108, 411, 412, 413, 414, 65, 66, 67, 415, 416, 417, 24, 418, 61, 60, 419, 420, 421, 603, 604, 605, 606, 607, 608, 632, 633, 634, 635, 636, 637, 638, 639, 640, 626, 627, 628, 629, 630, 631, 641, 642, 643, 644, 645, 646, 647] (by decide +kernel) (by decide +kernel)) (goodIn_sub (fun _ h => List.mem_append_left _ (List.mem_append_left _ (List.mem_append_right _ h))) (by decide +kernel))) (goodIn_sub (fun _ h => List.mem_append_left _ (List.mem_append_right _ h)) (by decide +kernel))) (goodIn_sub (fun _ h => List.mem_append_right _ h) (by decide +kernel))
set_option maxRecDepth 20000 in
theorem gL_law_L_write : GoodIn wsL_law (va_wsS RL 105 yL_write wsL_write) := goodIn_app (goodIn_of _ (by decide +kernel)) ggL_law_L_write
set_option maxRecDepth 20000 in
theorem ggL_law_X5_write : GoodIn wsL_law wsX5_write := goodIn_r _ [425, 83, 85, 86, 426, 235, 236, 237, 5, 238, 160, 239, 240, 241, 327, 328, 329, 170, 171, 172, 173, 75, 427, 428, 429, 430, 77, 431, 432, 433, 434, 78, 80, 82, 435, 436, 437, 438, 342, 343, 344, 345, 76, 174, 175, 176, 177, 178, 330, 331, 332, 333, 334, 335, 336, 337, 81, 338, 339, 340, 341, 439, 440, 441, 442, 79, 84, 443, 444, 445, 446, 609, 610, 611, 612, 613, 614, 615, 616, 617, 618, 619, 620, 621, 622, 623, 624, 625] (by decide +kernel) (by decide +kernel)
set_option maxRecDepth 20000 in
theorem gL_law_X5_write : GoodIn wsL_law (wsV RL 108 RX5 yX5_write wsX5_write) := goodIn_app (goodIn_of _ (by decide +kernel)) ggL_law_X5_write
set_option maxRecDepth 20000 in
theorem ggL_law_L_delete : GoodIn wsL_law wsL_delete := goodIn_ca (goodIn_ca (goodIn_ca (goodIn_r _ [449, 186, 245, 91, 450, 451, 452, 2, 453, 191, 192, 193, 194, 195, 196, 17, 197, 198, 199, 16, 200, 102, 292, 293, 294, 250, 251, 201, 202, 203, 204, 96, 97, 205, 120, 121, 122, 123, 124, 125, 126, 295, 296, 297, 298, 25, 299, 300, 301, 302, 303, 304, 21, 305, 306, 307, 308, 309, 310, 311, 312, 107, 313, 314, 315, 316, 317, 318, 38, 373, 374, 375, 376, 377, 378, 379, 380, 381, 151, 382, 398, 399, 400, 401, 113, 264, 29, 402, 31, 403, 404, 405, 28, 406, 219, 68, 387, 388, 389, 603, 604, 605, 606, 607, 608, 626, 627, 628, 629, 630, 631, 641, 642, 632, 633, 634, 635, 636, 637, 638, 639, 640, 643, 644, 645, 646, 647] (by decide +kernel) (by decide +kernel)) (goodIn_sub (fun _ h => List.mem_append_left _ (List.mem_append_right _ h)) (by decide +kernel))) (goodIn_sub (fun _ h => List.mem_append_right _ h) (by decide +kernel))) (goodIn_sub (fun _ h => List.mem_append_left _ (List.mem_append_left _ (List.mem_append_right _ h))) (by decide +kernel))
set_option maxRecDepth 20000 in
theorem gL_law_L_delete : GoodIn wsL_law (va_wsS RL 109 yL_delete wsL_delete) := goodIn_app (goodIn_of _ (by decide +kernel)) ggL_law_L_delete
set_option maxRecDepth 20000 in
theorem ggL_law_X5_delete : GoodIn wsL_law wsX5_delete := goodIn_r _ [457, 235, 236, 237, 5, 238, 160, 239, 240, 241, 327, 328, 329, 170, 171, 172, 173, 75, 330, 331, 332, 333, 86, 85, 83, 334, 335, 336, 337, 81, 80, 82, 338, 339, 340, 341, 342, 343, 344, 345, 76, 431, 432, 433, 434, 77, 78, 435, 436, 437, 438, 174, 175, 176, 177, 178, 443, 444, 445, 446, 84, 609, 610, 611, 612, 613, 614, 615, 616, 617, 618, 619, 620, 621, 622, 623, 624, 625] (by decide +kernel) (by decide +kernel)
set_option maxRecDepth 20000 in
theorem gL_law_X5_delete : GoodIn wsL_law (wsV RL 111 RX5 yX5_delete wsX5_delete) := goodIn_app (goodIn_of _ (by decide +kernel)) ggL_law_X5_delete
set_option maxRecDepth 20000 in
theorem ggL_law_L_clean : GoodIn wsL_law wsL_clean := goodIn_ca (goodIn_r _ [460, 245, 461, 462, 463, 2, 464, 17, 31, 465, 466, 467, 250, 251, 468, 469, 470, 16, 471, 151, 102, 38, 119, 120, 121, 122, 123, 124, 125, 126, 390, 391, 392, 472, 473, 474, 475, 21, 313, 314, 138, 139, 140, 20, 141, 43, 476, 477, 478, 479, 480, 198, 199, 200, 481, 482, 483, 484, 485, 305, 25, 377, 486, 487, 488, 489, 50, 490, 491, 492, 24, 493, 61, 60, 494, 53, 54, 55, 45, 47, 48, 51, 495, 496, 497, 498, 108, 32, 107, 142, 128, 129, 130, 131, 132, 133, 134, 135, 136, 137, 499, 500, 501, 502, 503, 504, 505, 506, 143, 144, 145, 146, 603, 604, 605, 606, 607, 608, 626, 627, 628, 629, 630, 631, 632, 633, 634, 635, 636, 637, 638, 639, 640, 641, 642] (by decide +kernel) (by decide +kernel)) (goodIn_sub (fun _ h => List.mem_append_right _ h) (by decide +kernel))
set_option maxRecDepth 20000 in
theorem gL_law_L_clean : GoodIn wsL_law (va_wsS RL 112 yL_clean wsL_clean) := goodIn_app (goodIn_of _ (by decide +kernel)) ggL_law_L_clean
set_option maxRecDepth 20000 in
theorem ggL_law_X5_clean : GoodIn wsL_law wsX5_clean := goodIn_r _ [510, 81, 77, 80, 73, 84, 511, 512, 5, 513, 239, 240, 241, 174, 175, 176, 177, 178, 514, 515, 516, 517, 75, 82, 518, 519, 520, 521, 160, 170, 171, 172, 173, 342, 343, 344, 345, 76, 522, 523, 524, 525, 83, 78, 86, 85, 166, 167, 168, 169, 161, 74, 526, 527, 528, 529, 609, 610, 611, 612, 613, 614, 615, 616, 617, 618, 619, 620, 621, 622, 623, 624, 625] (by decide +kernel) (by decide +kernel)
set_option maxRecDepth 20000 in
theorem gL_law_X5_clean : GoodIn wsL_law (wsV RL 114 RX5 yX5_clean wsX5_clean) := goodIn_app (goodIn_of _ (by decide +kernel)) ggL_law_X5_clean
set_option maxRecDepth 20000 in
theorem ggL_law_L_setFreezing : GoodIn wsL_law wsL_setFreezing := goodIn_ca (goodIn_r _ [532, 245, 533, 534, 535, 2, 536, 250, 251, 32, 603, 604, 605, 606, 607, 608] (by decide +kernel) (by decide +kernel)) (goodIn_sub (fun _ h => List.mem_append_right _ h) (by decide +kernel))
set_option maxRecDepth 20000 in
theorem gL_law_L_setFreezing : GoodIn wsL_law (va_wsS RL 115 yL_setFreezing wsL_setFreezing) := goodIn_app (goodIn_of _ (by decide +kernel)) ggL_law_L_setFreezing
set_option maxRecDepth 20000 in
theorem ggL_law_X5_setFreezing : GoodIn wsL_law wsX5_setFreezing := goodIn_r _ [540, 73, 239, 240, 5, 241, 174, 175, 176, 177, 178, 609, 610, 611, 612, 613, 614, 615, 616, 617, 618, 619, 620, 621, 622, 623, 624, 625] (by decide +kernel) (by decide +kernel)
set_option maxRecDepth 20000 in
theorem gL_law_X5_setFreezing : GoodIn wsL_law (wsV RL 117 RX5 yX5_setFreezing wsX5_setFreezing) := goodIn_app (goodIn_of _ (by decide +kernel)) ggL_law_X5_setFreezing
set_option maxRecDepth 20000 in
theorem ggL_law_L_isMapped : GoodIn wsL_law wsL_isMapped := goodIn_ca (goodIn_r _ [543, 245, 544, 545, 546, 2, 547, 31, 465, 466, 467, 250, 251, 603, 604, 605, 606, 607, 608] (by decide +kernel) (by decide +kernel)) (goodIn_sub (fun _ h => List.mem_append_right _ h) (by decide +kernel))
set_option maxRecDepth 20000 in
theorem gL_law_L_isMapped : GoodIn wsL_law (va_wsS RL 118 yL_isMapped wsL_isMapped) := goodIn_app (goodIn_of _ (by decide +kernel)) ggL_law_L_isMapped
set_option maxRecDepth 20000 in
theorem ggL_law_X5_isMapped : GoodIn wsL_law wsX5_isMapped := goodIn_r _ [551, 84, 511, 512, 5, 513, 239, 240, 241, 174, 175, 176, 177, 178, 609, 610, 611, 612, 613, 614, 615, 616, 617, 618, 619, 620, 621, 622, 623, 624, 625] (by decide +kernel) (by decide +kernel)
set_option maxRecDepth 20000 in
theorem gL_law_X5_isMapped : GoodIn wsL_law (wsV RL 120 RX5 yX5_isMapped wsX5_isMapped) := goodIn_app (goodIn_of _ (by decide +kernel)) ggL_law_X5_isMapped
set_option maxRecDepth 20000 in
theorem ggL_law_L_isWhole : GoodIn wsL_law wsL_isWhole := goodIn_ca (goodIn_r _ [554, 245, 555, 500, 501, 2, 502, 17, 21, 465, 466, 467, 250, 251, 468, 469, 470, 16, 471, 151, 102, 38, 119, 120, 121, 122, 123, 124, 125, 126, 390, 391, 392, 138, 139, 140, 20, 141, 43, 503, 504, 505, 506, 107, 313, 143, 144, 145, 146, 48, 481, 603, 604, 605, 606, 607, 608, 626, 627, 628, 629, 630, 631, 632, 633, 634, 635, 636, 637, 638, 639, 640] (by decide +kernel) (by decide +kernel)) (goodIn_sub (fun _ h => List.mem_append_right _ h) (by decide +kernel))
set_option maxRecDepth 20000 in
theorem gL_law_L_isWhole : GoodIn wsL_law (va_wsS RL 121 yL_isWhole wsL_isWhole) := goodIn_app (goodIn_of _ (by decide +kernel)) ggL_law_L_isWhole
set_option maxRecDepth 20000 in
theorem ggL_law_X5_isWhole : GoodIn wsL_law wsX5_isWhole := goodIn_r _ [559, 511, 512, 5, 513, 239, 240, 241, 174, 175, 176, 177, 178, 526, 527, 528, 529, 77, 82, 81, 80, 518, 519, 520, 521, 75, 160, 170, 171, 172, 173, 342, 343, 344, 345, 76, 609, 610, 611, 612, 613, 614, 615, 616, 617, 618, 619, 620, 621, 622, 623, 624, 625] (by decide +kernel) (by decide +kernel)
set_option maxRecDepth 20000 in
theorem gL_law_X5_isWhole : GoodIn wsL_law (wsV RL 123 RX5 yX5_isWhole wsX5_isWhole) := goodIn_app (goodIn_of _ (by decide +kernel)) ggL_law_X5_isWhole
set_option maxRecDepth 20000 in
theorem ggL_law_L_slot : GoodIn wsL_law wsL_slot := goodIn_ca (goodIn_r _ [562, 245, 563, 564, 565, 2, 566, 21, 377, 107, 305, 465, 466, 467, 250, 251, 567, 568, 569, 390, 391, 392, 138, 139, 140, 20, 141, 43, 143, 144, 145, 146, 48, 306, 307, 308, 419, 420, 421, 603, 604, 605, 606, 607, 608, 632, 633, 634, 635, 636, 637, 638, 639, 640] (by decide +kernel) (by decide +kernel)) (goodIn_sub (fun _ h => List.mem_append_right _ h) (by decide +kernel))
set_option maxRecDepth 20000 in
theorem gL_law_L_slot : GoodIn wsL_law (va_wsS RL 124 yL_slot wsL_slot) := goodIn_app (goodIn_of _ (by decide +kernel)) ggL_law_L_slot
set_option maxRecDepth 20000 in
theorem ggL_law_X5_slot : GoodIn wsL_law wsX5_slot := goodIn_r _ [573, 77, 78, 81, 82, 83, 511, 512, 5, 513, 239, 240, 241, 174, 175, 176, 177, 178, 609, 610, 611, 612, 613, 614, 615, 616, 617, 618, 619, 620, 621, 622, 623, 624, 625] (by decide +kernel) (by decide +kernel)
set_option maxRecDepth 20000 in
theorem gL_law_X5_slot : GoodIn wsL_law (wsV RL 126 RX5 yX5_slot wsX5_slot) := goodIn_app (goodIn_of _ (by decide +kernel)) ggL_law_X5_slot
set_option maxRecDepth 20000 in
theorem ggL_law_L_entries : GoodIn wsL_law wsL_entries := goodIn_ca (goodIn_r _ [576, 245, 577, 578, 579, 2, 580, 25, 299, 292, 293, 294, 250, 251, 603, 604, 605, 606, 607, 608, 641, 642] (by decide +kernel) (by decide +kernel)) (goodIn_sub (fun _ h => List.mem_append_right _ h) (by decide +kernel))
set_option maxRecDepth 20000 in
theorem gL_law_L_entries : GoodIn wsL_law (va_wsS RL 127 yL_entries wsL_entries) := goodIn_app (goodIn_of _ (by decide +kernel)) ggL_law_L_entries
set_option maxRecDepth 20000 in
theorem ggL_law_X5_entries : GoodIn wsL_law wsX5_entries := goodIn_r _ [584, 86, 327, 328, 5, 329, 239, 240, 241, 174, 175, 176, 177, 178, 609, 610, 611, 612, 613, 614, 615, 616, 617, 618, 619, 620, 621, 622, 623, 624, 625] (by decide +kernel) (by decide +kernel)
set_option maxRecDepth 20000 in
theorem gL_law_X5_entries : GoodIn wsL_law (wsV RL 129 RX5 yX5_entries wsX5_entries) := goodIn_app (goodIn_of _ (by decide +kernel)) ggL_law_X5_entries
set_option maxRecDepth 20000 in
theorem ggL_law_L_fullness : GoodIn wsL_law wsL_fullness := goodIn_ca (goodIn_r _ [587, 245, 588, 589, 590, 2, 591, 21, 592, 465, 466, 467, 250, 251, 390, 391, 392, 138, 139, 140, 20, 141, 43, 603, 604, 605, 606, 607, 608, 632, 633, 634, 635, 636, 637, 638, 639, 640] (by decide +kernel) (by decide +kernel)) (goodIn_sub (fun _ h => List.mem_append_right _ h) (by decide +kernel))
set_option maxRecDepth 20000 in
theorem gL_law_L_fullness : GoodIn wsL_law (va_wsS RL 130 yL_fullness wsL_fullness) := goodIn_app (goodIn_of _ (by decide +kernel)) ggL_law_L_fullness
set_option maxRecDepth 20000 in
theorem ggL_law_X5_fullness : GoodIn wsL_law wsX5_fullness := goodIn_r _ [596, 77, 597, 511, 512, 5, 513, 239, 240, 241, 174, 175, 176, 177, 178, 609, 610, 611, 612, 613, 614, 615, 616, 617, 618, 619, 620, 621, 622, 623, 624, 625] (by decide +kernel) (by decide +kernel)
set_option maxRecDepth 20000 in
theorem gL_law_X5_fullness : GoodIn wsL_law (wsV RL 133 RX5 yX5_fullness wsX5_fullness) := goodIn_app (goodIn_of _ (by decide +kernel)) ggL_law_X5_fullness
set_option maxRecDepth 20000 in
theorem ggL_law_X4_oldest : GoodIn wsL_law wsX4_oldest := goodIn_r _ [106, 17, 21, 107, 108, 109, 110, 111, 112, 113, 114, 115, 116, 16, 117, 102, 37, 118, 119, 120, 121, 122, 123, 124, 125, 126, 127, 128, 129, 130, 131, 132, 2, 133, 134, 135, 136, 137, 138, 139, 140, 20, 141, 43, 142, 143, 144, 145, 146, 48, 603, 604, 605, 606, 607, 608, 632, 633, 634, 635, 636, 637, 638, 639, 640, 626, 627, 628, 629, 630, 631] (by decide +kernel) (by decide +kernel)
set_option maxRecDepth 20000 in
theorem gL_law_X4_oldest : GoodIn wsL_law (wsV RL 134 RX4 yX4_oldest wsX4_oldest) := goodIn_app (goodIn_of _ (by decide +kernel)) ggL_law_X4_oldest
set_option maxRecDepth 20000 in
theorem ggL_law_X5_oldest : GoodIn wsL_law wsX5_oldest := goodIn_r _ [602, 178, 162, 163, 164, 5, 165, 77, 81, 80, 82, 160, 166, 167, 168, 169, 161, 74, 170, 171, 172, 173, 75, 609, 610, 611, 612, 613, 614, 615, 616, 617, 618, 619, 620, 621, 622, 623, 624, 625] (by decide +kernel) (by decide +kernel)
set_option maxRecDepth 20000 in
theorem gL_law_X5_oldest : GoodIn wsL_law (wsV RL 137 RX5 yX5_oldest wsX5_oldest) := goodIn_app (goodIn_of _ (by decide +kernel)) ggL_law_X5_oldest
theorem dL_law_0 : decode cL_law 0 = .ok (.new 8, 3) := by decide +kernel
theorem dL_law_3 : decode cL_law 3 = .ok (.dup, 1) := by decide +kernel
theorem dL_law_4 : decode cL_law 4 = .ok (.invokespecial 71, 3) := by decide +kernel
theorem dL_law_7 : decode cL_law 7 = .ok (.astore_n 1, 1) := by decide +kernel
theorem dL_law_8 : decode cL_law 8 = .ok (.new 72, 3) := by decide +kernel
theorem dL_law_11 : decode cL_law 11 = .ok (.dup, 1) := by decide +kernel
theorem dL_law_12 : decode cL_law 12 = .ok (.invokespecial 74, 3) := by decide +kernel
theorem dL_law_15 : decode cL_law 15 = .ok (.astore_n 2, 1) := by decide +kernel
theorem dL_law_16 : decode cL_law 16 = .ok (.iconst 1, 1) := by decide +kernel
theorem dL_law_17 : decode cL_law 17 = .ok (.newarray .long, 2) := by decide +kernel
theorem dL_law_19 : decode cL_law 19 = .ok (.astore_n 3, 1) := by decide +kernel
theorem dL_law_20 : decode cL_law 20 = .ok (.iconst 1, 1) := by decide +kernel
theorem dL_law_21 : decode cL_law 21 = .ok (.newarray .double, 2) := by decide +kernel
theorem dL_law_23 : decode cL_law 23 = .ok (.astore 4, 2) := by decide +kernel
theorem dL_law_25 : decode cL_law 25 = .ok (.iconst 0, 1) := by decide +kernel
theorem dL_law_26 : decode cL_law 26 = .ok (.istore 5, 2) := by decide +kernel
theorem dL_law_28 : decode cL_law 28 = .ok (.iload 5, 2) := by decide +kernel
theorem dL_law_30 : decode cL_law 30 = .ok (.aload_n 0, 1) := by decide +kernel
theorem dL_law_31 : decode cL_law 31 = .ok (.arraylength, 1) := by decide +kernel
theorem dL_law_32 : decode cL_law 32 = .ok (.iconst 4, 1) := by decide +kernel
theorem dL_law_33 : decode cL_law 33 = .ok (.isub, 1) := by decide +kernel
theorem dL_law_34 : decode cL_law 34 = .ok (.if_icmp .gt 1159, 3) := by decide +kernel
theorem dL_law_37 : decode cL_law 37 = .ok (.aload_n 0, 1) := by decide +kernel
theorem dL_law_38 : decode cL_law 38 = .ok (.iload 5, 2) := by decide +kernel
theorem dL_law_40 : decode cL_law 40 = .ok (.iaload, 1) := by decide +kernel
theorem dL_law_41 : decode cL_law 41 = .ok (.bipush 31, 2) := by decide +kernel
theorem dL_law_43 : decode cL_law 43 = .ok (.iand, 1) := by decide +kernel
theorem dL_law_44 : decode cL_law 44 = .ok (.tableswitch 1143 0 16 #[84, 128, 212, 268, 324, 399, 467, 535, 615, 690, 746, 802, 865, 928, 996, 1052, 1130], 84) := by decide +kernel
theorem dL_law_128 : decode cL_law 128 = .ok (.aload_n 1, 1) := by decide +kernel
theorem dL_law_129 : decode cL_law 129 = .ok (.aload_n 3, 1) := by decide +kernel
theorem dL_law_130 : decode cL_law 130 = .ok (.invokestatic 75, 3) := by decide +kernel
theorem dL_law_133 : decode cL_law 133 = .ok (.istore 6, 2) := by decide +kernel
theorem dL_law_135 : decode cL_law 135 = .ok (.aload_n 2, 1) := by decide +kernel
theorem dL_law_136 : decode cL_law 136 = .ok (.invokevirtual 80, 3) := by decide +kernel
theorem dL_law_139 : decode cL_law 139 = .ok (.istore 7, 2) := by decide +kernel
theorem dL_law_141 : decode cL_law 141 = .ok (.aload_n 2, 1) := by decide +kernel
theorem dL_law_142 : decode cL_law 142 = .ok (.invokevirtual 81, 3) := by decide +kernel
theorem dL_law_145 : decode cL_law 145 = .ok (.iload 6, 2) := by decide +kernel
theorem dL_law_147 : decode cL_law 147 = .ok (.if_icmp .eq 5, 3) := by decide +kernel
theorem dL_law_150 : decode cL_law 150 = .ok (.iconst 0, 1) := by decide +kernel
theorem dL_law_151 : decode cL_law 151 = .ok (.ireturn, 1) := by decide +kernel
theorem dL_law_152 : decode cL_law 152 = .ok (.iload 6, 2) := by decide +kernel
theorem dL_law_154 : decode cL_law 154 = .ok (.ifCond .ne 15, 3) := by decide +kernel
theorem dL_law_157 : decode cL_law 157 = .ok (.aload_n 3, 1) := by decide +kernel
theorem dL_law_158 : decode cL_law 158 = .ok (.iconst 0, 1) := by decide +kernel
theorem dL_law_159 : decode cL_law 159 = .ok (.laload, 1) := by decide +kernel
theorem dL_law_160 : decode cL_law 160 = .ok (.iload 7, 2) := by decide +kernel
theorem dL_law_162 : decode cL_law 162 = .ok (.i2l, 1) := by decide +kernel
theorem dL_law_163 : decode cL_law 163 = .ok (.lcmp, 1) := by decide +kernel
theorem dL_law_164 : decode cL_law 164 = .ok (.ifCond .eq 5, 3) := by decide +kernel
theorem dL_law_167 : decode cL_law 167 = .ok (.iconst 0, 1) := by decide +kernel
theorem dL_law_168 : decode cL_law 168 = .ok (.ireturn, 1) := by decide +kernel
theorem dL_law_169 : decode cL_law 169 = .ok (.goto 1018, 3) := by decide +kernel
theorem dL_law_172 : decode cL_law 172 = .ok (.aload_n 1, 1) := by decide +kernel
theorem dL_law_173 : decode cL_law 173 = .ok (.aload_n 0, 1) := by decide +kernel
theorem dL_law_174 : decode cL_law 174 = .ok (.iload 5, 2) := by decide +kernel
theorem dL_law_176 : decode cL_law 176 = .ok (.iconst 1, 1) := by decide +kernel
theorem dL_law_177 : decode cL_law 177 = .ok (.iadd, 1) := by decide +kernel
theorem dL_law_178 : decode cL_law 178 = .ok (.iaload, 1) := by decide +kernel
theorem dL_law_179 : decode cL_law 179 = .ok (.aload_n 0, 1) := by decide +kernel
theorem dL_law_180 : decode cL_law 180 = .ok (.iload 5, 2) := by decide +kernel
theorem dL_law_182 : decode cL_law 182 = .ok (.iconst 2, 1) := by decide +kernel
theorem dL_law_183 : decode cL_law 183 = .ok (.iadd, 1) := by decide +kernel
theorem dL_law_184 : decode cL_law 184 = .ok (.iaload, 1) := by decide +kernel
theorem dL_law_185 : decode cL_law 185 = .ok (.ifCond .eq 7, 3) := by decide +kernel
theorem dL_law_188 : decode cL_law 188 = .ok (.iconst 1, 1) := by decide +kernel
theorem dL_law_189 : decode cL_law 189 = .ok (.goto 4, 3) := by decide +kernel
theorem dL_law_192 : decode cL_law 192 = .ok (.iconst 0, 1) := by decide +kernel
theorem dL_law_193 : decode cL_law 193 = .ok (.aload_n 3, 1) := by decide +kernel
theorem dL_law_194 : decode cL_law 194 = .ok (.invokestatic 84, 3) := by decide +kernel
theorem dL_law_197 : decode cL_law 197 = .ok (.istore 6, 2) := by decide +kernel
theorem dL_law_199 : decode cL_law 199 = .ok (.aload_n 2, 1) := by decide +kernel
theorem dL_law_200 : decode cL_law 200 = .ok (.aload_n 0, 1) := by decide +kernel
theorem dL_law_201 : decode cL_law 201 = .ok (.iload 5, 2) := by decide +kernel
theorem dL_law_203 : decode cL_law 203 = .ok (.iconst 1, 1) := by decide +kernel
theorem dL_law_204 : decode cL_law 204 = .ok (.iadd, 1) := by decide +kernel
theorem dL_law_205 : decode cL_law 205 = .ok (.iaload, 1) := by decide +kernel
theorem dL_law_206 : decode cL_law 206 = .ok (.aload_n 0, 1) := by decide +kernel
theorem dL_law_207 : decode cL_law 207 = .ok (.iload 5, 2) := by decide +kernel
theorem dL_law_209 : decode cL_law 209 = .ok (.iconst 2, 1) := by decide +kernel
theorem dL_law_210 : decode cL_law 210 = .ok (.iadd, 1) := by decide +kernel
theorem dL_law_211 : decode cL_law 211 = .ok (.iaload, 1) := by decide +kernel
theorem dL_law_212 : decode cL_law 212 = .ok (.ifCond .eq 7, 3) := by decide +kernel
theorem dL_law_215 : decode cL_law 215 = .ok (.iconst 1, 1) := by decide +kernel
theorem dL_law_216 : decode cL_law 216 = .ok (.goto 4, 3) := by decide +kernel
theorem dL_law_219 : decode cL_law 219 = .ok (.iconst 0, 1) := by decide +kernel
theorem dL_law_220 : decode cL_law 220 = .ok (.invokevirtual 87, 3) := by decide +kernel
theorem dL_law_223 : decode cL_law 223 = .ok (.istore 7, 2) := by decide +kernel
theorem dL_law_225 : decode cL_law 225 = .ok (.aload_n 2, 1) := by decide +kernel
theorem dL_law_226 : decode cL_law 226 = .ok (.invokevirtual 81, 3) := by decide +kernel
theorem dL_law_229 : decode cL_law 229 = .ok (.iload 6, 2) := by decide +kernel
theorem dL_law_231 : decode cL_law 231 = .ok (.if_icmp .eq 5, 3) := by decide +kernel
theorem dL_law_234 : decode cL_law 234 = .ok (.iconst 0, 1) := by decide +kernel
theorem dL_law_235 : decode cL_law 235 = .ok (.ireturn, 1) := by decide +kernel
theorem dL_law_236 : decode cL_law 236 = .ok (.iload 6, 2) := by decide +kernel
theorem dL_law_238 : decode cL_law 238 = .ok (.ifCond .ne 15, 3) := by decide +kernel
theorem dL_law_241 : decode cL_law 241 = .ok (.aload_n 3, 1) := by decide +kernel
theorem dL_law_242 : decode cL_law 242 = .ok (.iconst 0, 1) := by decide +kernel
theorem dL_law_243 : decode cL_law 243 = .ok (.laload, 1) := by decide +kernel
theorem dL_law_244 : decode cL_law 244 = .ok (.iload 7, 2) := by decide +kernel
theorem dL_law_246 : decode cL_law 246 = .ok (.i2l, 1) := by decide +kernel
theorem dL_law_247 : decode cL_law 247 = .ok (.lcmp, 1) := by decide +kernel
theorem dL_law_248 : decode cL_law 248 = .ok (.ifCond .eq 5, 3) := by decide +kernel
theorem dL_law_251 : decode cL_law 251 = .ok (.iconst 0, 1) := by decide +kernel
theorem dL_law_252 : decode cL_law 252 = .ok (.ireturn, 1) := by decide +kernel
theorem dL_law_253 : decode cL_law 253 = .ok (.goto 934, 3) := by decide +kernel
theorem dL_law_256 : decode cL_law 256 = .ok (.aload_n 1, 1) := by decide +kernel
theorem dL_law_257 : decode cL_law 257 = .ok (.aload_n 0, 1) := by decide +kernel
theorem dL_law_258 : decode cL_law 258 = .ok (.iload 5, 2) := by decide +kernel
theorem dL_law_260 : decode cL_law 260 = .ok (.iconst 1, 1) := by decide +kernel
theorem dL_law_261 : decode cL_law 261 = .ok (.iadd, 1) := by decide +kernel
theorem dL_law_262 : decode cL_law 262 = .ok (.iaload, 1) := by decide +kernel
theorem dL_law_263 : decode cL_law 263 = .ok (.aload_n 3, 1) := by decide +kernel
theorem dL_law_264 : decode cL_law 264 = .ok (.invokestatic 88, 3) := by decide +kernel
theorem dL_law_267 : decode cL_law 267 = .ok (.istore 6, 2) := by decide +kernel
theorem dL_law_269 : decode cL_law 269 = .ok (.aload_n 2, 1) := by decide +kernel
theorem dL_law_270 : decode cL_law 270 = .ok (.aload_n 0, 1) := by decide +kernel
theorem dL_law_271 : decode cL_law 271 = .ok (.iload 5, 2) := by decide +kernel
theorem dL_law_273 : decode cL_law 273 = .ok (.iconst 1, 1) := by decide +kernel
theorem dL_law_274 : decode cL_law 274 = .ok (.iadd, 1) := by decide +kernel
theorem dL_law_275 : decode cL_law 275 = .ok (.iaload, 1) := by decide +kernel
theorem dL_law_276 : decode cL_law 276 = .ok (.invokevirtual 91, 3) := by decide +kernel
theorem dL_law_279 : decode cL_law 279 = .ok (.istore 7, 2) := by decide +kernel
theorem dL_law_281 : decode cL_law 281 = .ok (.aload_n 2, 1) := by decide +kernel
theorem dL_law_282 : decode cL_law 282 = .ok (.invokevirtual 81, 3) := by decide +kernel
theorem dL_law_285 : decode cL_law 285 = .ok (.iload 6, 2) := by decide +kernel
theorem dL_law_287 : decode cL_law 287 = .ok (.if_icmp .eq 5, 3) := by decide +kernel
theorem dL_law_290 : decode cL_law 290 = .ok (.iconst 0, 1) := by decide +kernel
theorem dL_law_291 : decode cL_law 291 = .ok (.ireturn, 1) := by decide +kernel
theorem dL_law_292 : decode cL_law 292 = .ok (.iload 6, 2) := by decide +kernel
theorem dL_law_294 : decode cL_law 294 = .ok (.ifCond .ne 15, 3) := by decide +kernel
theorem dL_law_297 : decode cL_law 297 = .ok (.aload_n 3, 1) := by decide +kernel
theorem dL_law_298 : decode cL_law 298 = .ok (.iconst 0, 1) := by decide +kernel
theorem dL_law_299 : decode cL_law 299 = .ok (.laload, 1) := by decide +kernel
theorem dL_law_300 : decode cL_law 300 = .ok (.iload 7, 2) := by decide +kernel
theorem dL_law_302 : decode cL_law 302 = .ok (.i2l, 1) := by decide +kernel
theorem dL_law_303 : decode cL_law 303 = .ok (.lcmp, 1) := by decide +kernel
theorem dL_law_304 : decode cL_law 304 = .ok (.ifCond .eq 5, 3) := by decide +kernel
theorem dL_law_307 : decode cL_law 307 = .ok (.iconst 0, 1) := by decide +kernel
theorem dL_law_308 : decode cL_law 308 = .ok (.ireturn, 1) := by decide +kernel
theorem dL_law_309 : decode cL_law 309 = .ok (.goto 878, 3) := by decide +kernel
theorem dL_law_312 : decode cL_law 312 = .ok (.aload_n 1, 1) := by decide +kernel
theorem dL_law_313 : decode cL_law 313 = .ok (.aload_n 0, 1) := by decide +kernel
theorem dL_law_314 : decode cL_law 314 = .ok (.iload 5, 2) := by decide +kernel
theorem dL_law_316 : decode cL_law 316 = .ok (.iconst 1, 1) := by decide +kernel
theorem dL_law_317 : decode cL_law 317 = .ok (.iadd, 1) := by decide +kernel
theorem dL_law_318 : decode cL_law 318 = .ok (.iaload, 1) := by decide +kernel
theorem dL_law_319 : decode cL_law 319 = .ok (.aload_n 3, 1) := by decide +kernel
theorem dL_law_320 : decode cL_law 320 = .ok (.invokestatic 92, 3) := by decide +kernel
theorem dL_law_323 : decode cL_law 323 = .ok (.istore 6, 2) := by decide +kernel
theorem dL_law_325 : decode cL_law 325 = .ok (.aload_n 2, 1) := by decide +kernel
theorem dL_law_326 : decode cL_law 326 = .ok (.aload_n 0, 1) := by decide +kernel
theorem dL_law_327 : decode cL_law 327 = .ok (.iload 5, 2) := by decide +kernel
theorem dL_law_329 : decode cL_law 329 = .ok (.iconst 1, 1) := by decide +kernel
theorem dL_law_330 : decode cL_law 330 = .ok (.iadd, 1) := by decide +kernel
theorem dL_law_331 : decode cL_law 331 = .ok (.iaload, 1) := by decide +kernel
theorem dL_law_332 : decode cL_law 332 = .ok (.invokevirtual 94, 3) := by decide +kernel
theorem dL_law_335 : decode cL_law 335 = .ok (.istore 7, 2) := by decide +kernel
theorem dL_law_337 : decode cL_law 337 = .ok (.aload_n 2, 1) := by decide +kernel
theorem dL_law_338 : decode cL_law 338 = .ok (.invokevirtual 81, 3) := by decide +kernel
theorem dL_law_341 : decode cL_law 341 = .ok (.iload 6, 2) := by decide +kernel
theorem dL_law_343 : decode cL_law 343 = .ok (.if_icmp .eq 5, 3) := by decide +kernel
theorem dL_law_346 : decode cL_law 346 = .ok (.iconst 0, 1) := by decide +kernel
theorem dL_law_347 : decode cL_law 347 = .ok (.ireturn, 1) := by decide +kernel
theorem dL_law_348 : decode cL_law 348 = .ok (.iload 6, 2) := by decide +kernel
theorem dL_law_350 : decode cL_law 350 = .ok (.ifCond .ne 15, 3) := by decide +kernel
theorem dL_law_353 : decode cL_law 353 = .ok (.aload_n 3, 1) := by decide +kernel
theorem dL_law_354 : decode cL_law 354 = .ok (.iconst 0, 1) := by decide +kernel
theorem dL_law_355 : decode cL_law 355 = .ok (.laload, 1) := by decide +kernel
theorem dL_law_356 : decode cL_law 356 = .ok (.iload 7, 2) := by decide +kernel
theorem dL_law_358 : decode cL_law 358 = .ok (.i2l, 1) := by decide +kernel
theorem dL_law_359 : decode cL_law 359 = .ok (.lcmp, 1) := by decide +kernel
theorem dL_law_360 : decode cL_law 360 = .ok (.ifCond .eq 5, 3) := by decide +kernel
theorem dL_law_363 : decode cL_law 363 = .ok (.iconst 0, 1) := by decide +kernel
theorem dL_law_364 : decode cL_law 364 = .ok (.ireturn, 1) := by decide +kernel
theorem dL_law_365 : decode cL_law 365 = .ok (.goto 822, 3) := by decide +kernel
theorem dL_law_368 : decode cL_law 368 = .ok (.aload_n 1, 1) := by decide +kernel
theorem dL_law_369 : decode cL_law 369 = .ok (.aload_n 0, 1) := by decide +kernel
theorem dL_law_370 : decode cL_law 370 = .ok (.iload 5, 2) := by decide +kernel
theorem dL_law_372 : decode cL_law 372 = .ok (.iconst 1, 1) := by decide +kernel
theorem dL_law_373 : decode cL_law 373 = .ok (.iadd, 1) := by decide +kernel
theorem dL_law_374 : decode cL_law 374 = .ok (.iaload, 1) := by decide +kernel
theorem dL_law_375 : decode cL_law 375 = .ok (.aload_n 0, 1) := by decide +kernel
theorem dL_law_376 : decode cL_law 376 = .ok (.iload 5, 2) := by decide +kernel
theorem dL_law_378 : decode cL_law 378 = .ok (.iconst 2, 1) := by decide +kernel
theorem dL_law_379 : decode cL_law 379 = .ok (.iadd, 1) := by decide +kernel
theorem dL_law_380 : decode cL_law 380 = .ok (.iaload, 1) := by decide +kernel
theorem dL_law_381 : decode cL_law 381 = .ok (.aload_n 3, 1) := by decide +kernel
theorem dL_law_382 : decode cL_law 382 = .ok (.invokestatic 95, 3) := by decide +kernel
theorem dL_law_385 : decode cL_law 385 = .ok (.istore 6, 2) := by decide +kernel
theorem dL_law_387 : decode cL_law 387 = .ok (.aload_n 2, 1) := by decide +kernel
theorem dL_law_388 : decode cL_law 388 = .ok (.aload_n 0, 1) := by decide +kernel
theorem dL_law_389 : decode cL_law 389 = .ok (.iload 5, 2) := by decide +kernel
theorem dL_law_391 : decode cL_law 391 = .ok (.iconst 1, 1) := by decide +kernel
theorem dL_law_392 : decode cL_law 392 = .ok (.iadd, 1) := by decide +kernel
theorem dL_law_393 : decode cL_law 393 = .ok (.iaload, 1) := by decide +kernel
theorem dL_law_394 : decode cL_law 394 = .ok (.aload_n 0, 1) := by decide +kernel
theorem dL_law_395 : decode cL_law 395 = .ok (.iload 5, 2) := by decide +kernel
theorem dL_law_397 : decode cL_law 397 = .ok (.iconst 2, 1) := by decide +kernel
theorem dL_law_398 : decode cL_law 398 = .ok (.iadd, 1) := by decide +kernel
theorem dL_law_399 : decode cL_law 399 = .ok (.iaload, 1) := by decide +kernel
theorem dL_law_400 : decode cL_law 400 = .ok (.invokevirtual 98, 3) := by decide +kernel
theorem dL_law_403 : decode cL_law 403 = .ok (.istore 7, 2) := by decide +kernel
theorem dL_law_405 : decode cL_law 405 = .ok (.aload_n 2, 1) := by decide +kernel
theorem dL_law_406 : decode cL_law 406 = .ok (.invokevirtual 81, 3) := by decide +kernel
theorem dL_law_409 : decode cL_law 409 = .ok (.iload 6, 2) := by decide +kernel
theorem dL_law_411 : decode cL_law 411 = .ok (.if_icmp .eq 5, 3) := by decide +kernel
theorem dL_law_414 : decode cL_law 414 = .ok (.iconst 0, 1) := by decide +kernel
theorem dL_law_415 : decode cL_law 415 = .ok (.ireturn, 1) := by decide +kernel
theorem dL_law_416 : decode cL_law 416 = .ok (.iload 6, 2) := by decide +kernel
theorem dL_law_418 : decode cL_law 418 = .ok (.ifCond .ne 22, 3) := by decide +kernel
theorem dL_law_421 : decode cL_law 421 = .ok (.aload_n 3, 1) := by decide +kernel
theorem dL_law_422 : decode cL_law 422 = .ok (.iconst 0, 1) := by decide +kernel
theorem dL_law_423 : decode cL_law 423 = .ok (.laload, 1) := by decide +kernel
theorem dL_law_424 : decode cL_law 424 = .ok (.iload 7, 2) := by decide +kernel
theorem dL_law_426 : decode cL_law 426 = .ok (.ifCond .eq 7, 3) := by decide +kernel
theorem dL_law_429 : decode cL_law 429 = .ok (.lconst 1, 1) := by decide +kernel
theorem dL_law_430 : decode cL_law 430 = .ok (.goto 4, 3) := by decide +kernel
theorem dL_law_433 : decode cL_law 433 = .ok (.lconst 0, 1) := by decide +kernel
theorem dL_law_434 : decode cL_law 434 = .ok (.lcmp, 1) := by decide +kernel
theorem dL_law_435 : decode cL_law 435 = .ok (.ifCond .eq 5, 3) := by decide +kernel
theorem dL_law_438 : decode cL_law 438 = .ok (.iconst 0, 1) := by decide +kernel
theorem dL_law_439 : decode cL_law 439 = .ok (.ireturn, 1) := by decide +kernel
theorem dL_law_440 : decode cL_law 440 = .ok (.goto 747, 3) := by decide +kernel
theorem dL_law_443 : decode cL_law 443 = .ok (.aload_n 1, 1) := by decide +kernel
theorem dL_law_444 : decode cL_law 444 = .ok (.aload_n 0, 1) := by decide +kernel
theorem dL_law_445 : decode cL_law 445 = .ok (.iload 5, 2) := by decide +kernel
theorem dL_law_447 : decode cL_law 447 = .ok (.iconst 1, 1) := by decide +kernel
theorem dL_law_448 : decode cL_law 448 = .ok (.iadd, 1) := by decide +kernel
theorem dL_law_449 : decode cL_law 449 = .ok (.iaload, 1) := by decide +kernel
theorem dL_law_450 : decode cL_law 450 = .ok (.aload_n 0, 1) := by decide +kernel
theorem dL_law_451 : decode cL_law 451 = .ok (.iload 5, 2) := by decide +kernel
theorem dL_law_453 : decode cL_law 453 = .ok (.iconst 2, 1) := by decide +kernel
theorem dL_law_454 : decode cL_law 454 = .ok (.iadd, 1) := by decide +kernel
theorem dL_law_455 : decode cL_law 455 = .ok (.iaload, 1) := by decide +kernel
theorem dL_law_456 : decode cL_law 456 = .ok (.aload_n 3, 1) := by decide +kernel
theorem dL_law_457 : decode cL_law 457 = .ok (.invokestatic 99, 3) := by decide +kernel
theorem dL_law_460 : decode cL_law 460 = .ok (.istore 6, 2) := by decide +kernel
theorem dL_law_462 : decode cL_law 462 = .ok (.aload_n 2, 1) := by decide +kernel
theorem dL_law_463 : decode cL_law 463 = .ok (.aload_n 0, 1) := by decide +kernel
theorem dL_law_464 : decode cL_law 464 = .ok (.iload 5, 2) := by decide +kernel
theorem dL_law_466 : decode cL_law 466 = .ok (.iconst 1, 1) := by decide +kernel
theorem dL_law_467 : decode cL_law 467 = .ok (.iadd, 1) := by decide +kernel
theorem dL_law_468 : decode cL_law 468 = .ok (.iaload, 1) := by decide +kernel
theorem dL_law_469 : decode cL_law 469 = .ok (.aload_n 0, 1) := by decide +kernel
theorem dL_law_470 : decode cL_law 470 = .ok (.iload 5, 2) := by decide +kernel
theorem dL_law_472 : decode cL_law 472 = .ok (.iconst 2, 1) := by decide +kernel
theorem dL_law_473 : decode cL_law 473 = .ok (.iadd, 1) := by decide +kernel
theorem dL_law_474 : decode cL_law 474 = .ok (.iaload, 1) := by decide +kernel
theorem dL_law_475 : decode cL_law 475 = .ok (.invokevirtual 101, 3) := by decide +kernel
theorem dL_law_478 : decode cL_law 478 = .ok (.istore 7, 2) := by decide +kernel
theorem dL_law_480 : decode cL_law 480 = .ok (.aload_n 2, 1) := by decide +kernel
theorem dL_law_481 : decode cL_law 481 = .ok (.invokevirtual 81, 3) := by decide +kernel
theorem dL_law_484 : decode cL_law 484 = .ok (.iload 6, 2) := by decide +kernel
theorem dL_law_486 : decode cL_law 486 = .ok (.if_icmp .eq 5, 3) := by decide +kernel
theorem dL_law_489 : decode cL_law 489 = .ok (.iconst 0, 1) := by decide +kernel
theorem dL_law_490 : decode cL_law 490 = .ok (.ireturn, 1) := by decide +kernel
theorem dL_law_491 : decode cL_law 491 = .ok (.iload 6, 2) := by decide +kernel
theorem dL_law_493 : decode cL_law 493 = .ok (.ifCond .ne 15, 3) := by decide +kernel
theorem dL_law_496 : decode cL_law 496 = .ok (.aload_n 3, 1) := by decide +kernel
theorem dL_law_497 : decode cL_law 497 = .ok (.iconst 0, 1) := by decide +kernel
theorem dL_law_498 : decode cL_law 498 = .ok (.laload, 1) := by decide +kernel
theorem dL_law_499 : decode cL_law 499 = .ok (.iload 7, 2) := by decide +kernel
theorem dL_law_501 : decode cL_law 501 = .ok (.i2l, 1) := by decide +kernel
theorem dL_law_502 : decode cL_law 502 = .ok (.lcmp, 1) := by decide +kernel
theorem dL_law_503 : decode cL_law 503 = .ok (.ifCond .eq 5, 3) := by decide +kernel
theorem dL_law_506 : decode cL_law 506 = .ok (.iconst 0, 1) := by decide +kernel
theorem dL_law_507 : decode cL_law 507 = .ok (.ireturn, 1) := by decide +kernel
theorem dL_law_508 : decode cL_law 508 = .ok (.goto 679, 3) := by decide +kernel
theorem dL_law_511 : decode cL_law 511 = .ok (.aload_n 1, 1) := by decide +kernel
theorem dL_law_512 : decode cL_law 512 = .ok (.aload_n 0, 1) := by decide +kernel
theorem dL_law_513 : decode cL_law 513 = .ok (.iload 5, 2) := by decide +kernel
theorem dL_law_515 : decode cL_law 515 = .ok (.iconst 1, 1) := by decide +kernel
theorem dL_law_516 : decode cL_law 516 = .ok (.iadd, 1) := by decide +kernel
theorem dL_law_517 : decode cL_law 517 = .ok (.iaload, 1) := by decide +kernel
theorem dL_law_518 : decode cL_law 518 = .ok (.aload_n 0, 1) := by decide +kernel
theorem dL_law_519 : decode cL_law 519 = .ok (.iload 5, 2) := by decide +kernel
theorem dL_law_521 : decode cL_law 521 = .ok (.iconst 2, 1) := by decide +kernel
theorem dL_law_522 : decode cL_law 522 = .ok (.iadd, 1) := by decide +kernel
theorem dL_law_523 : decode cL_law 523 = .ok (.iaload, 1) := by decide +kernel
theorem dL_law_524 : decode cL_law 524 = .ok (.aload_n 3, 1) := by decide +kernel
theorem dL_law_525 : decode cL_law 525 = .ok (.invokestatic 102, 3) := by decide +kernel
theorem dL_law_528 : decode cL_law 528 = .ok (.istore 6, 2) := by decide +kernel
theorem dL_law_530 : decode cL_law 530 = .ok (.aload_n 2, 1) := by decide +kernel
theorem dL_law_531 : decode cL_law 531 = .ok (.aload_n 0, 1) := by decide +kernel
theorem dL_law_532 : decode cL_law 532 = .ok (.iload 5, 2) := by decide +kernel
theorem dL_law_534 : decode cL_law 534 = .ok (.iconst 1, 1) := by decide +kernel
theorem dL_law_535 : decode cL_law 535 = .ok (.iadd, 1) := by decide +kernel
theorem dL_law_536 : decode cL_law 536 = .ok (.iaload, 1) := by decide +kernel
theorem dL_law_537 : decode cL_law 537 = .ok (.aload_n 0, 1) := by decide +kernel
theorem dL_law_538 : decode cL_law 538 = .ok (.iload 5, 2) := by decide +kernel
theorem dL_law_540 : decode cL_law 540 = .ok (.iconst 2, 1) := by decide +kernel
theorem dL_law_541 : decode cL_law 541 = .ok (.iadd, 1) := by decide +kernel
theorem dL_law_542 : decode cL_law 542 = .ok (.iaload, 1) := by decide +kernel
theorem dL_law_543 : decode cL_law 543 = .ok (.invokevirtual 104, 3) := by decide +kernel
theorem dL_law_546 : decode cL_law 546 = .ok (.istore 7, 2) := by decide +kernel
theorem dL_law_548 : decode cL_law 548 = .ok (.aload_n 2, 1) := by decide +kernel
theorem dL_law_549 : decode cL_law 549 = .ok (.invokevirtual 81, 3) := by decide +kernel
theorem dL_law_552 : decode cL_law 552 = .ok (.iload 6, 2) := by decide +kernel
theorem dL_law_554 : decode cL_law 554 = .ok (.if_icmp .eq 5, 3) := by decide +kernel
theorem dL_law_557 : decode cL_law 557 = .ok (.iconst 0, 1) := by decide +kernel
theorem dL_law_558 : decode cL_law 558 = .ok (.ireturn, 1) := by decide +kernel
theorem dL_law_559 : decode cL_law 559 = .ok (.iload 6, 2) := by decide +kernel
theorem dL_law_561 : decode cL_law 561 = .ok (.ifCond .ne 15, 3) := by decide +kernel
theorem dL_law_564 : decode cL_law 564 = .ok (.aload_n 3, 1) := by decide +kernel
theorem dL_law_565 : decode cL_law 565 = .ok (.iconst 0, 1) := by decide +kernel
theorem dL_law_566 : decode cL_law 566 = .ok (.laload, 1) := by decide +kernel
theorem dL_law_567 : decode cL_law 567 = .ok (.iload 7, 2) := by decide +kernel
theorem dL_law_569 : decode cL_law 569 = .ok (.i2l, 1) := by decide +kernel
theorem dL_law_570 : decode cL_law 570 = .ok (.lcmp, 1) := by decide +kernel
theorem dL_law_571 : decode cL_law 571 = .ok (.ifCond .eq 5, 3) := by decide +kernel
theorem dL_law_574 : decode cL_law 574 = .ok (.iconst 0, 1) := by decide +kernel
theorem dL_law_575 : decode cL_law 575 = .ok (.ireturn, 1) := by decide +kernel
theorem dL_law_576 : decode cL_law 576 = .ok (.goto 611, 3) := by decide +kernel
theorem dL_law_579 : decode cL_law 579 = .ok (.aload_n 1, 1) := by decide +kernel
theorem dL_law_580 : decode cL_law 580 = .ok (.aload_n 0, 1) := by decide +kernel
theorem dL_law_581 : decode cL_law 581 = .ok (.iload 5, 2) := by decide +kernel
theorem dL_law_583 : decode cL_law 583 = .ok (.iconst 1, 1) := by decide +kernel
theorem dL_law_584 : decode cL_law 584 = .ok (.iadd, 1) := by decide +kernel
theorem dL_law_585 : decode cL_law 585 = .ok (.iaload, 1) := by decide +kernel
theorem dL_law_586 : decode cL_law 586 = .ok (.aload_n 0, 1) := by decide +kernel
theorem dL_law_587 : decode cL_law 587 = .ok (.iload 5, 2) := by decide +kernel
theorem dL_law_589 : decode cL_law 589 = .ok (.iconst 2, 1) := by decide +kernel
theorem dL_law_590 : decode cL_law 590 = .ok (.iadd, 1) := by decide +kernel
theorem dL_law_591 : decode cL_law 591 = .ok (.iaload, 1) := by decide +kernel
theorem dL_law_592 : decode cL_law 592 = .ok (.aload_n 0, 1) := by decide +kernel
theorem dL_law_593 : decode cL_law 593 = .ok (.iload 5, 2) := by decide +kernel
theorem dL_law_595 : decode cL_law 595 = .ok (.iconst 3, 1) := by decide +kernel
theorem dL_law_596 : decode cL_law 596 = .ok (.iadd, 1) := by decide +kernel
theorem dL_law_597 : decode cL_law 597 = .ok (.iaload, 1) := by decide +kernel
theorem dL_law_598 : decode cL_law 598 = .ok (.aload_n 3, 1) := by decide +kernel
theorem dL_law_599 : decode cL_law 599 = .ok (.invokestatic 105, 3) := by decide +kernel
theorem dL_law_602 : decode cL_law 602 = .ok (.istore 6, 2) := by decide +kernel
theorem dL_law_604 : decode cL_law 604 = .ok (.aload_n 2, 1) := by decide +kernel
theorem dL_law_605 : decode cL_law 605 = .ok (.aload_n 0, 1) := by decide +kernel
theorem dL_law_606 : decode cL_law 606 = .ok (.iload 5, 2) := by decide +kernel
theorem dL_law_608 : decode cL_law 608 = .ok (.iconst 1, 1) := by decide +kernel
theorem dL_law_609 : decode cL_law 609 = .ok (.iadd, 1) := by decide +kernel
theorem dL_law_610 : decode cL_law 610 = .ok (.iaload, 1) := by decide +kernel
theorem dL_law_611 : decode cL_law 611 = .ok (.aload_n 0, 1) := by decide +kernel
theorem dL_law_612 : decode cL_law 612 = .ok (.iload 5, 2) := by decide +kernel
theorem dL_law_614 : decode cL_law 614 = .ok (.iconst 2, 1) := by decide +kernel
theorem dL_law_615 : decode cL_law 615 = .ok (.iadd, 1) := by decide +kernel
theorem dL_law_616 : decode cL_law 616 = .ok (.iaload, 1) := by decide +kernel
theorem dL_law_617 : decode cL_law 617 = .ok (.aload_n 0, 1) := by decide +kernel
theorem dL_law_618 : decode cL_law 618 = .ok (.iload 5, 2) := by decide +kernel
theorem dL_law_620 : decode cL_law 620 = .ok (.iconst 3, 1) := by decide +kernel
theorem dL_law_621 : decode cL_law 621 = .ok (.iadd, 1) := by decide +kernel
theorem dL_law_622 : decode cL_law 622 = .ok (.iaload, 1) := by decide +kernel
theorem dL_law_623 : decode cL_law 623 = .ok (.invokevirtual 108, 3) := by decide +kernel
theorem dL_law_626 : decode cL_law 626 = .ok (.istore 7, 2) := by decide +kernel
theorem dL_law_628 : decode cL_law 628 = .ok (.aload_n 2, 1) := by decide +kernel
theorem dL_law_629 : decode cL_law 629 = .ok (.invokevirtual 81, 3) := by decide +kernel
theorem dL_law_632 : decode cL_law 632 = .ok (.iload 6, 2) := by decide +kernel
theorem dL_law_634 : decode cL_law 634 = .ok (.if_icmp .eq 5, 3) := by decide +kernel
theorem dL_law_637 : decode cL_law 637 = .ok (.iconst 0, 1) := by decide +kernel
theorem dL_law_638 : decode cL_law 638 = .ok (.ireturn, 1) := by decide +kernel
theorem dL_law_639 : decode cL_law 639 = .ok (.iload 6, 2) := by decide +kernel
theorem dL_law_641 : decode cL_law 641 = .ok (.ifCond .ne 15, 3) := by decide +kernel
theorem dL_law_644 : decode cL_law 644 = .ok (.aload_n 3, 1) := by decide +kernel
theorem dL_law_645 : decode cL_law 645 = .ok (.iconst 0, 1) := by decide +kernel
theorem dL_law_646 : decode cL_law 646 = .ok (.laload, 1) := by decide +kernel
theorem dL_law_647 : decode cL_law 647 = .ok (.iload 7, 2) := by decide +kernel
theorem dL_law_649 : decode cL_law 649 = .ok (.i2l, 1) := by decide +kernel
theorem dL_law_650 : decode cL_law 650 = .ok (.lcmp, 1) := by decide +kernel
theorem dL_law_651 : decode cL_law 651 = .ok (.ifCond .eq 5, 3) := by decide +kernel
theorem dL_law_654 : decode cL_law 654 = .ok (.iconst 0, 1) := by decide +kernel
theorem dL_law_655 : decode cL_law 655 = .ok (.ireturn, 1) := by decide +kernel
theorem dL_law_656 : decode cL_law 656 = .ok (.goto 531, 3) := by decide +kernel
theorem dL_law_659 : decode cL_law 659 = .ok (.aload_n 1, 1) := by decide +kernel
theorem dL_law_660 : decode cL_law 660 = .ok (.aload_n 0, 1) := by decide +kernel
theorem dL_law_661 : decode cL_law 661 = .ok (.iload 5, 2) := by decide +kernel
theorem dL_law_663 : decode cL_law 663 = .ok (.iconst 1, 1) := by decide +kernel
theorem dL_law_664 : decode cL_law 664 = .ok (.iadd, 1) := by decide +kernel
theorem dL_law_665 : decode cL_law 665 = .ok (.iaload, 1) := by decide +kernel
theorem dL_law_666 : decode cL_law 666 = .ok (.aload_n 0, 1) := by decide +kernel
theorem dL_law_667 : decode cL_law 667 = .ok (.iload 5, 2) := by decide +kernel
theorem dL_law_669 : decode cL_law 669 = .ok (.iconst 2, 1) := by decide +kernel
theorem dL_law_670 : decode cL_law 670 = .ok (.iadd, 1) := by decide +kernel
theorem dL_law_671 : decode cL_law 671 = .ok (.iaload, 1) := by decide +kernel
theorem dL_law_672 : decode cL_law 672 = .ok (.aload_n 3, 1) := by decide +kernel
theorem dL_law_673 : decode cL_law 673 = .ok (.invokestatic 109, 3) := by decide +kernel
theorem dL_law_676 : decode cL_law 676 = .ok (.istore 6, 2) := by decide +kernel
theorem dL_law_678 : decode cL_law 678 = .ok (.aload_n 2, 1) := by decide +kernel
theorem dL_law_679 : decode cL_law 679 = .ok (.aload_n 0, 1) := by decide +kernel
theorem dL_law_680 : decode cL_law 680 = .ok (.iload 5, 2) := by decide +kernel
theorem dL_law_682 : decode cL_law 682 = .ok (.iconst 1, 1) := by decide +kernel
theorem dL_law_683 : decode cL_law 683 = .ok (.iadd, 1) := by decide +kernel
theorem dL_law_684 : decode cL_law 684 = .ok (.iaload, 1) := by decide +kernel
theorem dL_law_685 : decode cL_law 685 = .ok (.aload_n 0, 1) := by decide +kernel
theorem dL_law_686 : decode cL_law 686 = .ok (.iload 5, 2) := by decide +kernel
theorem dL_law_688 : decode cL_law 688 = .ok (.iconst 2, 1) := by decide +kernel
theorem dL_law_689 : decode cL_law 689 = .ok (.iadd, 1) := by decide +kernel
theorem dL_law_690 : decode cL_law 690 = .ok (.iaload, 1) := by decide +kernel
theorem dL_law_691 : decode cL_law 691 = .ok (.invokevirtual 111, 3) := by decide +kernel
theorem dL_law_694 : decode cL_law 694 = .ok (.istore 7, 2) := by decide +kernel
theorem dL_law_696 : decode cL_law 696 = .ok (.aload_n 2, 1) := by decide +kernel
theorem dL_law_697 : decode cL_law 697 = .ok (.invokevirtual 81, 3) := by decide +kernel
theorem dL_law_700 : decode cL_law 700 = .ok (.iload 6, 2) := by decide +kernel
theorem dL_law_702 : decode cL_law 702 = .ok (.if_icmp .eq 5, 3) := by decide +kernel
theorem dL_law_705 : decode cL_law 705 = .ok (.iconst 0, 1) := by decide +kernel
theorem dL_law_706 : decode cL_law 706 = .ok (.ireturn, 1) := by decide +kernel
theorem dL_law_707 : decode cL_law 707 = .ok (.iload 6, 2) := by decide +kernel
theorem dL_law_709 : decode cL_law 709 = .ok (.ifCond .ne 22, 3) := by decide +kernel
theorem dL_law_712 : decode cL_law 712 = .ok (.aload_n 3, 1) := by decide +kernel
theorem dL_law_713 : decode cL_law 713 = .ok (.iconst 0, 1) := by decide +kernel
theorem dL_law_714 : decode cL_law 714 = .ok (.laload, 1) := by decide +kernel
theorem dL_law_715 : decode cL_law 715 = .ok (.iload 7, 2) := by decide +kernel
theorem dL_law_717 : decode cL_law 717 = .ok (.ifCond .eq 7, 3) := by decide +kernel
theorem dL_law_720 : decode cL_law 720 = .ok (.lconst 1, 1) := by decide +kernel
theorem dL_law_721 : decode cL_law 721 = .ok (.goto 4, 3) := by decide +kernel
theorem dL_law_724 : decode cL_law 724 = .ok (.lconst 0, 1) := by decide +kernel
theorem dL_law_725 : decode cL_law 725 = .ok (.lcmp, 1) := by decide +kernel
theorem dL_law_726 : decode cL_law 726 = .ok (.ifCond .eq 5, 3) := by decide +kernel
theorem dL_law_729 : decode cL_law 729 = .ok (.iconst 0, 1) := by decide +kernel
theorem dL_law_730 : decode cL_law 730 = .ok (.ireturn, 1) := by decide +kernel
theorem dL_law_731 : decode cL_law 731 = .ok (.goto 456, 3) := by decide +kernel
theorem dL_law_734 : decode cL_law 734 = .ok (.aload_n 1, 1) := by decide +kernel
theorem dL_law_735 : decode cL_law 735 = .ok (.aload_n 0, 1) := by decide +kernel
theorem dL_law_736 : decode cL_law 736 = .ok (.iload 5, 2) := by decide +kernel
theorem dL_law_738 : decode cL_law 738 = .ok (.iconst 1, 1) := by decide +kernel
theorem dL_law_739 : decode cL_law 739 = .ok (.iadd, 1) := by decide +kernel
theorem dL_law_740 : decode cL_law 740 = .ok (.iaload, 1) := by decide +kernel
theorem dL_law_741 : decode cL_law 741 = .ok (.aload_n 3, 1) := by decide +kernel
theorem dL_law_742 : decode cL_law 742 = .ok (.invokestatic 112, 3) := by decide +kernel
theorem dL_law_745 : decode cL_law 745 = .ok (.istore 6, 2) := by decide +kernel
theorem dL_law_747 : decode cL_law 747 = .ok (.aload_n 2, 1) := by decide +kernel
theorem dL_law_748 : decode cL_law 748 = .ok (.aload_n 0, 1) := by decide +kernel
theorem dL_law_749 : decode cL_law 749 = .ok (.iload 5, 2) := by decide +kernel
theorem dL_law_751 : decode cL_law 751 = .ok (.iconst 1, 1) := by decide +kernel
theorem dL_law_752 : decode cL_law 752 = .ok (.iadd, 1) := by decide +kernel
theorem dL_law_753 : decode cL_law 753 = .ok (.iaload, 1) := by decide +kernel
theorem dL_law_754 : decode cL_law 754 = .ok (.invokevirtual 114, 3) := by decide +kernel
theorem dL_law_757 : decode cL_law 757 = .ok (.istore 7, 2) := by decide +kernel
theorem dL_law_759 : decode cL_law 759 = .ok (.aload_n 2, 1) := by decide +kernel
theorem dL_law_760 : decode cL_law 760 = .ok (.invokevirtual 81, 3) := by decide +kernel
theorem dL_law_763 : decode cL_law 763 = .ok (.iload 6, 2) := by decide +kernel
theorem dL_law_765 : decode cL_law 765 = .ok (.if_icmp .eq 5, 3) := by decide +kernel
theorem dL_law_768 : decode cL_law 768 = .ok (.iconst 0, 1) := by decide +kernel
theorem dL_law_769 : decode cL_law 769 = .ok (.ireturn, 1) := by decide +kernel
theorem dL_law_770 : decode cL_law 770 = .ok (.iload 6, 2) := by decide +kernel
theorem dL_law_772 : decode cL_law 772 = .ok (.ifCond .ne 15, 3) := by decide +kernel
theorem dL_law_775 : decode cL_law 775 = .ok (.aload_n 3, 1) := by decide +kernel
theorem dL_law_776 : decode cL_law 776 = .ok (.iconst 0, 1) := by decide +kernel
theorem dL_law_777 : decode cL_law 777 = .ok (.laload, 1) := by decide +kernel
theorem dL_law_778 : decode cL_law 778 = .ok (.iload 7, 2) := by decide +kernel
theorem dL_law_780 : decode cL_law 780 = .ok (.i2l, 1) := by decide +kernel
theorem dL_law_781 : decode cL_law 781 = .ok (.lcmp, 1) := by decide +kernel
theorem dL_law_782 : decode cL_law 782 = .ok (.ifCond .eq 5, 3) := by decide +kernel
theorem dL_law_785 : decode cL_law 785 = .ok (.iconst 0, 1) := by decide +kernel
theorem dL_law_786 : decode cL_law 786 = .ok (.ireturn, 1) := by decide +kernel
theorem dL_law_787 : decode cL_law 787 = .ok (.goto 400, 3) := by decide +kernel
theorem dL_law_790 : decode cL_law 790 = .ok (.aload_n 1, 1) := by decide +kernel
theorem dL_law_791 : decode cL_law 791 = .ok (.aload_n 0, 1) := by decide +kernel
theorem dL_law_792 : decode cL_law 792 = .ok (.iload 5, 2) := by decide +kernel
theorem dL_law_794 : decode cL_law 794 = .ok (.iconst 1, 1) := by decide +kernel
theorem dL_law_795 : decode cL_law 795 = .ok (.iadd, 1) := by decide +kernel
theorem dL_law_796 : decode cL_law 796 = .ok (.iaload, 1) := by decide +kernel
theorem dL_law_797 : decode cL_law 797 = .ok (.aload_n 3, 1) := by decide +kernel
theorem dL_law_798 : decode cL_law 798 = .ok (.invokestatic 115, 3) := by decide +kernel
theorem dL_law_801 : decode cL_law 801 = .ok (.istore 6, 2) := by decide +kernel
theorem dL_law_803 : decode cL_law 803 = .ok (.aload_n 2, 1) := by decide +kernel
theorem dL_law_804 : decode cL_law 804 = .ok (.aload_n 0, 1) := by decide +kernel
theorem dL_law_805 : decode cL_law 805 = .ok (.iload 5, 2) := by decide +kernel
theorem dL_law_807 : decode cL_law 807 = .ok (.iconst 1, 1) := by decide +kernel
theorem dL_law_808 : decode cL_law 808 = .ok (.iadd, 1) := by decide +kernel
theorem dL_law_809 : decode cL_law 809 = .ok (.iaload, 1) := by decide +kernel
theorem dL_law_810 : decode cL_law 810 = .ok (.invokevirtual 117, 3) := by decide +kernel
theorem dL_law_813 : decode cL_law 813 = .ok (.istore 7, 2) := by decide +kernel
theorem dL_law_815 : decode cL_law 815 = .ok (.aload_n 2, 1) := by decide +kernel
theorem dL_law_816 : decode cL_law 816 = .ok (.invokevirtual 81, 3) := by decide +kernel
theorem dL_law_819 : decode cL_law 819 = .ok (.iload 6, 2) := by decide +kernel
theorem dL_law_821 : decode cL_law 821 = .ok (.if_icmp .eq 5, 3) := by decide +kernel
theorem dL_law_824 : decode cL_law 824 = .ok (.iconst 0, 1) := by decide +kernel
theorem dL_law_825 : decode cL_law 825 = .ok (.ireturn, 1) := by decide +kernel
theorem dL_law_826 : decode cL_law 826 = .ok (.iload 6, 2) := by decide +kernel
theorem dL_law_828 : decode cL_law 828 = .ok (.ifCond .ne 15, 3) := by decide +kernel
theorem dL_law_831 : decode cL_law 831 = .ok (.aload_n 3, 1) := by decide +kernel
theorem dL_law_832 : decode cL_law 832 = .ok (.iconst 0, 1) := by decide +kernel
theorem dL_law_833 : decode cL_law 833 = .ok (.laload, 1) := by decide +kernel
theorem dL_law_834 : decode cL_law 834 = .ok (.iload 7, 2) := by decide +kernel
theorem dL_law_836 : decode cL_law 836 = .ok (.i2l, 1) := by decide +kernel
theorem dL_law_837 : decode cL_law 837 = .ok (.lcmp, 1) := by decide +kernel
theorem dL_law_838 : decode cL_law 838 = .ok (.ifCond .eq 5, 3) := by decide +kernel
theorem dL_law_841 : decode cL_law 841 = .ok (.iconst 0, 1) := by decide +kernel
theorem dL_law_842 : decode cL_law 842 = .ok (.ireturn, 1) := by decide +kernel
theorem dL_law_843 : decode cL_law 843 = .ok (.goto 344, 3) := by decide +kernel
theorem dL_law_846 : decode cL_law 846 = .ok (.aload_n 1, 1) := by decide +kernel
theorem dL_law_847 : decode cL_law 847 = .ok (.aload_n 0, 1) := by decide +kernel
theorem dL_law_848 : decode cL_law 848 = .ok (.iload 5, 2) := by decide +kernel
theorem dL_law_850 : decode cL_law 850 = .ok (.iconst 1, 1) := by decide +kernel
theorem dL_law_851 : decode cL_law 851 = .ok (.iadd, 1) := by decide +kernel
theorem dL_law_852 : decode cL_law 852 = .ok (.iaload, 1) := by decide +kernel
theorem dL_law_853 : decode cL_law 853 = .ok (.aload_n 3, 1) := by decide +kernel
theorem dL_law_854 : decode cL_law 854 = .ok (.invokestatic 118, 3) := by decide +kernel
theorem dL_law_857 : decode cL_law 857 = .ok (.istore 6, 2) := by decide +kernel
theorem dL_law_859 : decode cL_law 859 = .ok (.aload_n 2, 1) := by decide +kernel
theorem dL_law_860 : decode cL_law 860 = .ok (.aload_n 0, 1) := by decide +kernel
theorem dL_law_861 : decode cL_law 861 = .ok (.iload 5, 2) := by decide +kernel
theorem dL_law_863 : decode cL_law 863 = .ok (.iconst 1, 1) := by decide +kernel
theorem dL_law_864 : decode cL_law 864 = .ok (.iadd, 1) := by decide +kernel
theorem dL_law_865 : decode cL_law 865 = .ok (.iaload, 1) := by decide +kernel
theorem dL_law_866 : decode cL_law 866 = .ok (.invokevirtual 120, 3) := by decide +kernel
theorem dL_law_869 : decode cL_law 869 = .ok (.istore 7, 2) := by decide +kernel
theorem dL_law_871 : decode cL_law 871 = .ok (.aload_n 2, 1) := by decide +kernel
theorem dL_law_872 : decode cL_law 872 = .ok (.invokevirtual 81, 3) := by decide +kernel
theorem dL_law_875 : decode cL_law 875 = .ok (.iload 6, 2) := by decide +kernel
theorem dL_law_877 : decode cL_law 877 = .ok (.if_icmp .eq 5, 3) := by decide +kernel
theorem dL_law_880 : decode cL_law 880 = .ok (.iconst 0, 1) := by decide +kernel
theorem dL_law_881 : decode cL_law 881 = .ok (.ireturn, 1) := by decide +kernel
theorem dL_law_882 : decode cL_law 882 = .ok (.iload 6, 2) := by decide +kernel
theorem dL_law_884 : decode cL_law 884 = .ok (.ifCond .ne 22, 3) := by decide +kernel
theorem dL_law_887 : decode cL_law 887 = .ok (.aload_n 3, 1) := by decide +kernel
theorem dL_law_888 : decode cL_law 888 = .ok (.iconst 0, 1) := by decide +kernel
theorem dL_law_889 : decode cL_law 889 = .ok (.laload, 1) := by decide +kernel
theorem dL_law_890 : decode cL_law 890 = .ok (.iload 7, 2) := by decide +kernel
theorem dL_law_892 : decode cL_law 892 = .ok (.ifCond .eq 7, 3) := by decide +kernel
theorem dL_law_895 : decode cL_law 895 = .ok (.lconst 1, 1) := by decide +kernel
theorem dL_law_896 : decode cL_law 896 = .ok (.goto 4, 3) := by decide +kernel
theorem dL_law_899 : decode cL_law 899 = .ok (.lconst 0, 1) := by decide +kernel
theorem dL_law_900 : decode cL_law 900 = .ok (.lcmp, 1) := by decide +kernel
theorem dL_law_901 : decode cL_law 901 = .ok (.ifCond .eq 5, 3) := by decide +kernel
theorem dL_law_904 : decode cL_law 904 = .ok (.iconst 0, 1) := by decide +kernel
theorem dL_law_905 : decode cL_law 905 = .ok (.ireturn, 1) := by decide +kernel
theorem dL_law_906 : decode cL_law 906 = .ok (.goto 281, 3) := by decide +kernel
theorem dL_law_909 : decode cL_law 909 = .ok (.aload_n 1, 1) := by decide +kernel
theorem dL_law_910 : decode cL_law 910 = .ok (.aload_n 0, 1) := by decide +kernel
theorem dL_law_911 : decode cL_law 911 = .ok (.iload 5, 2) := by decide +kernel
theorem dL_law_913 : decode cL_law 913 = .ok (.iconst 1, 1) := by decide +kernel
theorem dL_law_914 : decode cL_law 914 = .ok (.iadd, 1) := by decide +kernel
theorem dL_law_915 : decode cL_law 915 = .ok (.iaload, 1) := by decide +kernel
theorem dL_law_916 : decode cL_law 916 = .ok (.aload_n 3, 1) := by decide +kernel
theorem dL_law_917 : decode cL_law 917 = .ok (.invokestatic 121, 3) := by decide +kernel
theorem dL_law_920 : decode cL_law 920 = .ok (.istore 6, 2) := by decide +kernel
theorem dL_law_922 : decode cL_law 922 = .ok (.aload_n 2, 1) := by decide +kernel
theorem dL_law_923 : decode cL_law 923 = .ok (.aload_n 0, 1) := by decide +kernel
theorem dL_law_924 : decode cL_law 924 = .ok (.iload 5, 2) := by decide +kernel
theorem dL_law_926 : decode cL_law 926 = .ok (.iconst 1, 1) := by decide +kernel
theorem dL_law_927 : decode cL_law 927 = .ok (.iadd, 1) := by decide +kernel
theorem dL_law_928 : decode cL_law 928 = .ok (.iaload, 1) := by decide +kernel
theorem dL_law_929 : decode cL_law 929 = .ok (.invokevirtual 123, 3) := by decide +kernel
theorem dL_law_932 : decode cL_law 932 = .ok (.istore 7, 2) := by decide +kernel
theorem dL_law_934 : decode cL_law 934 = .ok (.aload_n 2, 1) := by decide +kernel
theorem dL_law_935 : decode cL_law 935 = .ok (.invokevirtual 81, 3) := by decide +kernel
theorem dL_law_938 : decode cL_law 938 = .ok (.iload 6, 2) := by decide +kernel
theorem dL_law_940 : decode cL_law 940 = .ok (.if_icmp .eq 5, 3) := by decide +kernel
theorem dL_law_943 : decode cL_law 943 = .ok (.iconst 0, 1) := by decide +kernel
theorem dL_law_944 : decode cL_law 944 = .ok (.ireturn, 1) := by decide +kernel
theorem dL_law_945 : decode cL_law 945 = .ok (.iload 6, 2) := by decide +kernel
theorem dL_law_947 : decode cL_law 947 = .ok (.ifCond .ne 22, 3) := by decide +kernel
theorem dL_law_950 : decode cL_law 950 = .ok (.aload_n 3, 1) := by decide +kernel
theorem dL_law_951 : decode cL_law 951 = .ok (.iconst 0, 1) := by decide +kernel
theorem dL_law_952 : decode cL_law 952 = .ok (.laload, 1) := by decide +kernel
theorem dL_law_953 : decode cL_law 953 = .ok (.iload 7, 2) := by decide +kernel
theorem dL_law_955 : decode cL_law 955 = .ok (.ifCond .eq 7, 3) := by decide +kernel
theorem dL_law_958 : decode cL_law 958 = .ok (.lconst 1, 1) := by decide +kernel
theorem dL_law_959 : decode cL_law 959 = .ok (.goto 4, 3) := by decide +kernel
theorem dL_law_962 : decode cL_law 962 = .ok (.lconst 0, 1) := by decide +kernel
theorem dL_law_963 : decode cL_law 963 = .ok (.lcmp, 1) := by decide +kernel
theorem dL_law_964 : decode cL_law 964 = .ok (.ifCond .eq 5, 3) := by decide +kernel
theorem dL_law_967 : decode cL_law 967 = .ok (.iconst 0, 1) := by decide +kernel
theorem dL_law_968 : decode cL_law 968 = .ok (.ireturn, 1) := by decide +kernel
theorem dL_law_969 : decode cL_law 969 = .ok (.goto 218, 3) := by decide +kernel
theorem dL_law_972 : decode cL_law 972 = .ok (.aload_n 1, 1) := by decide +kernel
theorem dL_law_973 : decode cL_law 973 = .ok (.aload_n 0, 1) := by decide +kernel
theorem dL_law_974 : decode cL_law 974 = .ok (.iload 5, 2) := by decide +kernel
theorem dL_law_976 : decode cL_law 976 = .ok (.iconst 1, 1) := by decide +kernel
theorem dL_law_977 : decode cL_law 977 = .ok (.iadd, 1) := by decide +kernel
theorem dL_law_978 : decode cL_law 978 = .ok (.iaload, 1) := by decide +kernel
theorem dL_law_979 : decode cL_law 979 = .ok (.aload_n 0, 1) := by decide +kernel
theorem dL_law_980 : decode cL_law 980 = .ok (.iload 5, 2) := by decide +kernel
theorem dL_law_982 : decode cL_law 982 = .ok (.iconst 2, 1) := by decide +kernel
theorem dL_law_983 : decode cL_law 983 = .ok (.iadd, 1) := by decide +kernel
theorem dL_law_984 : decode cL_law 984 = .ok (.iaload, 1) := by decide +kernel
theorem dL_law_985 : decode cL_law 985 = .ok (.aload_n 3, 1) := by decide +kernel
theorem dL_law_986 : decode cL_law 986 = .ok (.invokestatic 124, 3) := by decide +kernel
theorem dL_law_989 : decode cL_law 989 = .ok (.istore 6, 2) := by decide +kernel
theorem dL_law_991 : decode cL_law 991 = .ok (.aload_n 2, 1) := by decide +kernel
theorem dL_law_992 : decode cL_law 992 = .ok (.aload_n 0, 1) := by decide +kernel
theorem dL_law_993 : decode cL_law 993 = .ok (.iload 5, 2) := by decide +kernel
theorem dL_law_995 : decode cL_law 995 = .ok (.iconst 1, 1) := by decide +kernel
theorem dL_law_996 : decode cL_law 996 = .ok (.iadd, 1) := by decide +kernel
theorem dL_law_997 : decode cL_law 997 = .ok (.iaload, 1) := by decide +kernel
theorem dL_law_998 : decode cL_law 998 = .ok (.aload_n 0, 1) := by decide +kernel
theorem dL_law_999 : decode cL_law 999 = .ok (.iload 5, 2) := by decide +kernel
theorem dL_law_1001 : decode cL_law 1001 = .ok (.iconst 2, 1) := by decide +kernel
theorem dL_law_1002 : decode cL_law 1002 = .ok (.iadd, 1) := by decide +kernel
theorem dL_law_1003 : decode cL_law 1003 = .ok (.iaload, 1) := by decide +kernel
theorem dL_law_1004 : decode cL_law 1004 = .ok (.invokevirtual 126, 3) := by decide +kernel
theorem dL_law_1007 : decode cL_law 1007 = .ok (.istore 7, 2) := by decide +kernel
theorem dL_law_1009 : decode cL_law 1009 = .ok (.aload_n 2, 1) := by decide +kernel
theorem dL_law_1010 : decode cL_law 1010 = .ok (.invokevirtual 81, 3) := by decide +kernel
theorem dL_law_1013 : decode cL_law 1013 = .ok (.iload 6, 2) := by decide +kernel
theorem dL_law_1015 : decode cL_law 1015 = .ok (.if_icmp .eq 5, 3) := by decide +kernel
theorem dL_law_1018 : decode cL_law 1018 = .ok (.iconst 0, 1) := by decide +kernel
theorem dL_law_1019 : decode cL_law 1019 = .ok (.ireturn, 1) := by decide +kernel
theorem dL_law_1020 : decode cL_law 1020 = .ok (.iload 6, 2) := by decide +kernel
theorem dL_law_1022 : decode cL_law 1022 = .ok (.ifCond .ne 15, 3) := by decide +kernel
theorem dL_law_1025 : decode cL_law 1025 = .ok (.aload_n 3, 1) := by decide +kernel
theorem dL_law_1026 : decode cL_law 1026 = .ok (.iconst 0, 1) := by decide +kernel
theorem dL_law_1027 : decode cL_law 1027 = .ok (.laload, 1) := by decide +kernel
theorem dL_law_1028 : decode cL_law 1028 = .ok (.iload 7, 2) := by decide +kernel
theorem dL_law_1030 : decode cL_law 1030 = .ok (.i2l, 1) := by decide +kernel
theorem dL_law_1031 : decode cL_law 1031 = .ok (.lcmp, 1) := by decide +kernel
theorem dL_law_1032 : decode cL_law 1032 = .ok (.ifCond .eq 5, 3) := by decide +kernel
theorem dL_law_1035 : decode cL_law 1035 = .ok (.iconst 0, 1) := by decide +kernel
theorem dL_law_1036 : decode cL_law 1036 = .ok (.ireturn, 1) := by decide +kernel
theorem dL_law_1037 : decode cL_law 1037 = .ok (.goto 150, 3) := by decide +kernel
theorem dL_law_1040 : decode cL_law 1040 = .ok (.aload_n 1, 1) := by decide +kernel
theorem dL_law_1041 : decode cL_law 1041 = .ok (.aload_n 0, 1) := by decide +kernel
theorem dL_law_1042 : decode cL_law 1042 = .ok (.iload 5, 2) := by decide +kernel
theorem dL_law_1044 : decode cL_law 1044 = .ok (.iconst 1, 1) := by decide +kernel
theorem dL_law_1045 : decode cL_law 1045 = .ok (.iadd, 1) := by decide +kernel
theorem dL_law_1046 : decode cL_law 1046 = .ok (.iaload, 1) := by decide +kernel
theorem dL_law_1047 : decode cL_law 1047 = .ok (.aload_n 3, 1) := by decide +kernel
theorem dL_law_1048 : decode cL_law 1048 = .ok (.invokestatic 127, 3) := by decide +kernel
theorem dL_law_1051 : decode cL_law 1051 = .ok (.istore 6, 2) := by decide +kernel
theorem dL_law_1053 : decode cL_law 1053 = .ok (.aload_n 2, 1) := by decide +kernel
theorem dL_law_1054 : decode cL_law 1054 = .ok (.aload_n 0, 1) := by decide +kernel
theorem dL_law_1055 : decode cL_law 1055 = .ok (.iload 5, 2) := by decide +kernel
theorem dL_law_1057 : decode cL_law 1057 = .ok (.iconst 1, 1) := by decide +kernel
theorem dL_law_1058 : decode cL_law 1058 = .ok (.iadd, 1) := by decide +kernel
theorem dL_law_1059 : decode cL_law 1059 = .ok (.iaload, 1) := by decide +kernel
theorem dL_law_1060 : decode cL_law 1060 = .ok (.invokevirtual 129, 3) := by decide +kernel
theorem dL_law_1063 : decode cL_law 1063 = .ok (.istore 7, 2) := by decide +kernel
theorem dL_law_1065 : decode cL_law 1065 = .ok (.aload_n 2, 1) := by decide +kernel
theorem dL_law_1066 : decode cL_law 1066 = .ok (.invokevirtual 81, 3) := by decide +kernel
theorem dL_law_1069 : decode cL_law 1069 = .ok (.iload 6, 2) := by decide +kernel
theorem dL_law_1071 : decode cL_law 1071 = .ok (.if_icmp .eq 5, 3) := by decide +kernel
theorem dL_law_1074 : decode cL_law 1074 = .ok (.iconst 0, 1) := by decide +kernel
theorem dL_law_1075 : decode cL_law 1075 = .ok (.ireturn, 1) := by decide +kernel
theorem dL_law_1076 : decode cL_law 1076 = .ok (.iload 6, 2) := by decide +kernel
theorem dL_law_1078 : decode cL_law 1078 = .ok (.ifCond .ne 15, 3) := by decide +kernel
theorem dL_law_1081 : decode cL_law 1081 = .ok (.aload_n 3, 1) := by decide +kernel
theorem dL_law_1082 : decode cL_law 1082 = .ok (.iconst 0, 1) := by decide +kernel
theorem dL_law_1083 : decode cL_law 1083 = .ok (.laload, 1) := by decide +kernel
theorem dL_law_1084 : decode cL_law 1084 = .ok (.iload 7, 2) := by decide +kernel
theorem dL_law_1086 : decode cL_law 1086 = .ok (.i2l, 1) := by decide +kernel
theorem dL_law_1087 : decode cL_law 1087 = .ok (.lcmp, 1) := by decide +kernel
theorem dL_law_1088 : decode cL_law 1088 = .ok (.ifCond .eq 5, 3) := by decide +kernel
theorem dL_law_1091 : decode cL_law 1091 = .ok (.iconst 0, 1) := by decide +kernel
theorem dL_law_1092 : decode cL_law 1092 = .ok (.ireturn, 1) := by decide +kernel
theorem dL_law_1093 : decode cL_law 1093 = .ok (.goto 94, 3) := by decide +kernel
theorem dL_law_1096 : decode cL_law 1096 = .ok (.aload_n 1, 1) := by decide +kernel
theorem dL_law_1097 : decode cL_law 1097 = .ok (.aload_n 0, 1) := by decide +kernel
theorem dL_law_1098 : decode cL_law 1098 = .ok (.iload 5, 2) := by decide +kernel
theorem dL_law_1100 : decode cL_law 1100 = .ok (.iconst 1, 1) := by decide +kernel
theorem dL_law_1101 : decode cL_law 1101 = .ok (.iadd, 1) := by decide +kernel
theorem dL_law_1102 : decode cL_law 1102 = .ok (.iaload, 1) := by decide +kernel
theorem dL_law_1103 : decode cL_law 1103 = .ok (.aload 4, 2) := by decide +kernel
theorem dL_law_1105 : decode cL_law 1105 = .ok (.invokestatic 130, 3) := by decide +kernel
theorem dL_law_1108 : decode cL_law 1108 = .ok (.istore 6, 2) := by decide +kernel
theorem dL_law_1110 : decode cL_law 1110 = .ok (.aload_n 2, 1) := by decide +kernel
theorem dL_law_1111 : decode cL_law 1111 = .ok (.aload_n 0, 1) := by decide +kernel
theorem dL_law_1112 : decode cL_law 1112 = .ok (.iload 5, 2) := by decide +kernel
theorem dL_law_1114 : decode cL_law 1114 = .ok (.iconst 1, 1) := by decide +kernel
theorem dL_law_1115 : decode cL_law 1115 = .ok (.iadd, 1) := by decide +kernel
theorem dL_law_1116 : decode cL_law 1116 = .ok (.iaload, 1) := by decide +kernel
theorem dL_law_1117 : decode cL_law 1117 = .ok (.invokevirtual 133, 3) := by decide +kernel
theorem dL_law_1120 : decode cL_law 1120 = .ok (.fstore 7, 2) := by decide +kernel
theorem dL_law_1122 : decode cL_law 1122 = .ok (.aload_n 2, 1) := by decide +kernel
theorem dL_law_1123 : decode cL_law 1123 = .ok (.invokevirtual 81, 3) := by decide +kernel
theorem dL_law_1126 : decode cL_law 1126 = .ok (.iload 6, 2) := by decide +kernel
theorem dL_law_1128 : decode cL_law 1128 = .ok (.if_icmp .eq 5, 3) := by decide +kernel
theorem dL_law_1131 : decode cL_law 1131 = .ok (.iconst 0, 1) := by decide +kernel
theorem dL_law_1132 : decode cL_law 1132 = .ok (.ireturn, 1) := by decide +kernel
theorem dL_law_1133 : decode cL_law 1133 = .ok (.iload 6, 2) := by decide +kernel
theorem dL_law_1135 : decode cL_law 1135 = .ok (.ifCond .ne 36, 3) := by decide +kernel
theorem dL_law_1138 : decode cL_law 1138 = .ok (.aload 4, 2) := by decide +kernel
theorem dL_law_1140 : decode cL_law 1140 = .ok (.iconst 0, 1) := by decide +kernel
theorem dL_law_1141 : decode cL_law 1141 = .ok (.daload, 1) := by decide +kernel
theorem dL_law_1142 : decode cL_law 1142 = .ok (.fload 7, 2) := by decide +kernel
theorem dL_law_1144 : decode cL_law 1144 = .ok (.f2d, 1) := by decide +kernel
theorem dL_law_1145 : decode cL_law 1145 = .ok (.dcmp .l, 1) := by decide +kernel
theorem dL_law_1146 : decode cL_law 1146 = .ok (.ifCond .eq 25, 3) := by decide +kernel
theorem dL_law_1149 : decode cL_law 1149 = .ok (.aload 4, 2) := by decide +kernel
theorem dL_law_1151 : decode cL_law 1151 = .ok (.iconst 0, 1) := by decide +kernel
theorem dL_law_1152 : decode cL_law 1152 = .ok (.daload, 1) := by decide +kernel
theorem dL_law_1153 : decode cL_law 1153 = .ok (.aload 4, 2) := by decide +kernel
theorem dL_law_1155 : decode cL_law 1155 = .ok (.iconst 0, 1) := by decide +kernel
theorem dL_law_1156 : decode cL_law 1156 = .ok (.daload, 1) := by decide +kernel
theorem dL_law_1157 : decode cL_law 1157 = .ok (.dcmp .l, 1) := by decide +kernel
theorem dL_law_1158 : decode cL_law 1158 = .ok (.ifCond .eq 11, 3) := by decide +kernel
theorem dL_law_1161 : decode cL_law 1161 = .ok (.fload 7, 2) := by decide +kernel
theorem dL_law_1163 : decode cL_law 1163 = .ok (.fload 7, 2) := by decide +kernel
theorem dL_law_1165 : decode cL_law 1165 = .ok (.fcmp .l, 1) := by decide +kernel
theorem dL_law_1166 : decode cL_law 1166 = .ok (.ifCond .ne 5, 3) := by decide +kernel
theorem dL_law_1169 : decode cL_law 1169 = .ok (.iconst 0, 1) := by decide +kernel
theorem dL_law_1170 : decode cL_law 1170 = .ok (.ireturn, 1) := by decide +kernel
theorem dL_law_1171 : decode cL_law 1171 = .ok (.goto 16, 3) := by decide +kernel
theorem dL_law_1174 : decode cL_law 1174 = .ok (.aload_n 1, 1) := by decide +kernel
theorem dL_law_1175 : decode cL_law 1175 = .ok (.invokevirtual 134, 3) := by decide +kernel
theorem dL_law_1178 : decode cL_law 1178 = .ok (.aload_n 2, 1) := by decide +kernel
theorem dL_law_1179 : decode cL_law 1179 = .ok (.invokevirtual 137, 3) := by decide +kernel
theorem dL_law_1182 : decode cL_law 1182 = .ok (.if_icmp .eq 5, 3) := by decide +kernel
theorem dL_law_1185 : decode cL_law 1185 = .ok (.iconst 0, 1) := by decide +kernel
theorem dL_law_1186 : decode cL_law 1186 = .ok (.ireturn, 1) := by decide +kernel
theorem dL_law_1187 : decode cL_law 1187 = .ok (.iinc 5 4, 3) := by decide +kernel
theorem dL_law_1190 : decode cL_law 1190 = .ok (.goto (-1162), 3) := by decide +kernel
theorem dL_law_1193 : decode cL_law 1193 = .ok (.iconst 1, 1) := by decide +kernel
theorem dL_law_1194 : decode cL_law 1194 = .ok (.ireturn, 1) := by decide +kernel
abbrev vwCl : List vw_C := [(RX0, TX0, 2), (RX1, TX1, 9), (RX2, TX2, 5), (RX3, TX3, 6), (RX4, TX4, 6), (RX5, TX5, 17)]
end
section
/-! ===== the base: what every contract of this claim says, its start, its ends, its calls ===== -/
abbrev AI : Type := Nat → Int32
abbrev AL : Type := Nat → Int64
def xIS : String := "java/lang/IllegalStateException"
def xIA : String := "java/lang/IllegalArgumentException"
def xIO : String := "java/lang/IndexOutOfBoundsException"
/-- what a method may change: the cells of L, and those that are made -/
def fr (L : Nat → Prop) (sz : Nat) : Nat → Prop := fun q => L q ∨ sz ≤ q
/-- the array classes -/
abbrev tysL (K : Nat → ClassId) : List (ClassId × FieldType) := [(K 0, .int), (K 1, .long), (K 2, .boolean), (K 3, .array .int), (K 4, .double)]
/-- the texts of the exceptions, by their places in the constant pool -/
def strL : List (Nat × String) := [(51, "there were 60 transactions"), (60, "the oldest age is 28 or more"), (235, "there never was such a transaction"), (241, "the transaction is not active"), (85, "stamps is not 1 to 20"), (88, "the oldest age would be 32 or more"), (250, "a stamp is not 0 to 63"), (252, "key is not 0 to 5"), (254, "value is not 0 to 9999"), (248, "writing is refused"), (145, "no slot is free"), (256, "page is not 0 to 3"), (191, "age is not 1 to 27"), (258, "slot is not 0 to 7")]
def dcL : List String := ["java/lang/RuntimeException", "java/lang/Exception", "java/lang/Throwable"]
/-- what of the tables and of the JDK's statics every method is handed on -/
def ev (D : va_G) (K : Nat → ClassId) (A : Nat → Prop) (U : State) : Prop :=
  va_K D vwCl (tysL K) U ∧ va_Nw (.methodLinkNest RX3 53 yX4_distance RX4) U ∧ vx_Zq Bundle.tN "UNASSIGNED_STACK" Bundle.steD A U U.heap ∧ vx_Zq Bundle.tN "SUPPRESSED_SENTINEL" Bundle.listD A U U.heap ∧ (∀ q ∈ strL, ∃ sa, vk_R RX4 q.1 q.2 sa U) ∧ (∀ X ∈ [xIS, xIA, xIO], va_Nw (.castable X X) U) ∧ (∀ Y ∈ dcL, va_Nw (.declares (Bundle.initS Y)) U)
theorem ev.same {D : va_G} {K : Nat → ClassId} {A : Nat → Prop} {u U : State} (hv : u.vm = U.vm) (hh : u.heap = U.heap) (h : ev D K A u) : ev D K A U := by
  obtain ⟨h1, h2, h3, h4, h5, h6, h7⟩ := h
  have ha : u.vm.Alike U.vm := hv ▸ Vm.Alike.refl u.vm
  exact ⟨va_K.moved ha h1, va_Nw.same rfl hv h2, hh ▸ vx_Zq.moved ha h3, hh ▸ vx_Zq.moved ha h4, fun q hq => by obtain ⟨sa, h⟩ := h5 q hq; exact ⟨sa, vk_R.same hv.symm h⟩, fun X hX => va_Nw.same rfl hv (h6 X hX), fun Y hY => va_Nw.same rfl hv (h7 Y hY)⟩
theorem ev.call {D : va_G} {K : Nat → ClassId} {A A' : Nat → Prop} {s U : State} {H : Heap} {locs : List Loc} (h : ev D K A s) (hS : va_S A s.heap H locs) (hU : U.heap = H) (hW : s.WarmedH U.vm) (hA : ∀ q, A' q → A q) : ev D K A' U := by
  obtain ⟨h1, h2, h3, h4, h5, h6, h7⟩ := h
  subst hU
  exact ⟨va_K.moved hW.alike h1, va_Nw.warmM hW h2, ((vx_Zq.moved hW.alike h3).kept (fun a ha hn => hS.2.1 a ha hn)).narrow hA, ((vx_Zq.moved hW.alike h4).kept (fun a ha hn => hS.2.1 a ha hn)).narrow hA, fun q hq => by obtain ⟨sa, h⟩ := h5 q hq; exact ⟨sa, vk_R.warm hW h⟩, fun X hX => va_Nw.warmC hW (h6 X hX), fun Y hY => va_Nw.warmD hW (h7 Y hY)⟩
/-- a contract's start -/
def pre (D : va_G) (K : Nat → ClassId) (L : Nat → Prop) (w : va_W) (sz : Nat) (U : State) : Prop := U.heap.size = sz ∧ ev D K (fr L sz) U ∧ va_P D vwCl w U.heap
theorem pre_blind {D : va_G} {K : Nat → ClassId} {L : Nat → Prop} {w : va_W} {sz : Nat} {av : List Value} : FrameBlind (va_Pc av (pre D K L w sz)) := by
  intro a U g mk q
  obtain ⟨q0, q1, q2, q3⟩ := q
  exact ⟨q0, q1, ev.same (u := U) (U := U.calling g mk a) rfl rfl q2, q3⟩
/-- contracts: on the world w the method returns r (or nothing) and leaves the world w' -/
def CI (l : Launch) (y : MethodName) (ws : List Cond) (rm : Room) (D : va_G) (K : Nat → ClassId) (L : Nat → Prop) (args : List Value) (w w' : va_W) (r : Int32) : Prop :=
  ∀ sz, Met l y ws rm (va_Pc args (pre D K L w sz)) (va_Qi (fun x (_ : Unit) => x = r) (fun _ t => va_P D vwCl w' t.heap) (fr L sz)) rm.cells rm.slots (fr L sz)
def CL (l : Launch) (y : MethodName) (ws : List Cond) (rm : Room) (D : va_G) (K : Nat → ClassId) (L : Nat → Prop) (args : List Value) (w w' : va_W) (r : Int64) : Prop :=
  ∀ sz, Met l y ws rm (va_Pc args (pre D K L w sz)) (va_Ql (fun x (_ : Unit) => x = r) (fun _ t => va_P D vwCl w' t.heap) (fr L sz)) rm.cells rm.slots (fr L sz)
def CF (l : Launch) (y : MethodName) (ws : List Cond) (rm : Room) (D : va_G) (K : Nat → ClassId) (L : Nat → Prop) (args : List Value) (w w' : va_W) (r : UInt32) : Prop :=
  ∀ sz, Met l y ws rm (va_Pc args (pre D K L w sz)) (va_Qf (fun x (_ : Unit) => x = r) (fun _ t => va_P D vwCl w' t.heap) (fr L sz)) rm.cells rm.slots (fr L sz)
def CV (l : Launch) (y : MethodName) (ws : List Cond) (rm : Room) (D : va_G) (K : Nat → ClassId) (L : Nat → Prop) (args : List Value) (w w' : va_W) : Prop :=
  ∀ sz, Met l y ws rm (va_Pc args (pre D K L w sz)) (va_Qv (fun (_ : Unit) => True) (fun _ t => va_P D vwCl w' t.heap) (fr L sz)) rm.cells rm.slots (fr L sz)
/-- what a method that may throw leaves behind a throw: E says which exception, the world is as it was -/
def xc (D : va_G) (w : va_W) (A : Nat → Prop) (E : Option String) : String → State → State → Prop := vx_X (fun (_ : Unit) => True) (fun X _ t => E = some X ∧ va_P D vwCl w t.heap) A
def XI (l : Launch) (y : MethodName) (ws : List Cond) (rm : Room) (D : va_G) (K : Nat → ClassId) (L : Nat → Prop) (args : List Value) (w w' : va_W) (E : Option String) (r : Int32) : Prop :=
  ∀ sz, vx_Met l y ws rm (va_Pc args (pre D K L w sz)) (va_Qi (fun x (_ : Unit) => E = none ∧ x = r) (fun _ t => va_P D vwCl w' t.heap) (fr L sz)) (xc D w (fr L sz) E) rm.cells rm.slots (fr L sz)
def XF (l : Launch) (y : MethodName) (ws : List Cond) (rm : Room) (D : va_G) (K : Nat → ClassId) (L : Nat → Prop) (args : List Value) (w w' : va_W) (E : Option String) (r : UInt32) : Prop :=
  ∀ sz, vx_Met l y ws rm (va_Pc args (pre D K L w sz)) (va_Qf (fun x (_ : Unit) => E = none ∧ x = r) (fun _ t => va_P D vwCl w' t.heap) (fr L sz)) (xc D w (fr L sz) E) rm.cells rm.slots (fr L sz)
def XV (l : Launch) (y : MethodName) (ws : List Cond) (rm : Room) (D : va_G) (K : Nat → ClassId) (L : Nat → Prop) (args : List Value) (w w' : va_W) (E : Option String) : Prop :=
  ∀ sz, vx_Met l y ws rm (va_Pc args (pre D K L w sz)) (va_Qv (fun (_ : Unit) => E = none) (fun _ t => va_P D vwCl w' t.heap) (fr L sz)) (xc D w (fr L sz) E) rm.cells rm.slots (fr L sz)
/-- what a body has at its entry -/
def en (l : Launch) (p : Program) (s : State) (m : MethodId) (meth : Method) (c : Code) (y : MethodName) (ws : List Cond) (cc : ByteArray) (maxL : Nat) (ret : Option FieldType) (args : List Value) (D : va_G) (K : Nat → ClassId) (A : Nat → Prop) (ls : Array Slot) : Prop :=
  p.tables.exec = Jvm.exec ∧ c.code = cc ∧ meth.sig.returnType = ret ∧ (∀ w ∈ ws, w.before args.toArray s = true) ∧ s.vm.findClass y.cls = some m.cls ∧ meth.locks = false ∧ c.maxLocals = maxL ∧ meth.name = y.name ∧ ev D K A s ∧ lv_has ls maxL (lv_args 0 args)
theorem met_of {l : Launch} {y : MethodName} {ws ws' : List Cond} {rm : Room} {D : va_G} {K : Nat → ClassId} {L : Nat → Prop} {args : List Value} {w : va_W} {sz : Nat} {Qc : Array Value → State → Outcome → State → Prop} {cc : ByteArray} {maxL : Nat} {ret : Option FieldType} (hy : plainName y.cls = true) (hw : ws = .code y cc maxL ret :: ws') (hn : (lg_sl args).length ≤ maxL)
    (body : ∀ p e s m below meth c ls, s.heap.size = sz → en l p s m meth c y ws cc maxL ret args D K (fr L s.heap.size) ls → va_P D vwCl w s.heap → W p l e rm s m args.toArray below meth c s.heap [] 0 0 (MQ below Qc args.toArray s rm.cells rm.slots (fr L s.heap.size)) (F0 m 0 ls [])) : Met l y ws rm (va_Pc args (pre D K L w sz)) Qc rm.cells rm.slots (fr L sz) := by
  refine Met.ofW (cc := cc) (maxL := maxL) (ret := ret) hy hw ?_
  intro p e s m a below meth c s₁ B hml hv
  obtain ⟨rfl, hsz, hE, hP⟩ := hv
  subst hsz
  have hl := lv_entry args (n := maxL) hn
  rw [lg_entry_eq]
  exact body p e s m below meth c _ rfl ⟨B.exec, B.bytes, B.returns, atoms_spec (ws := ws) B.pre, findClass_of_methodNamed B.named, B.notSynchronized, hml, (name_of_methodNamed B.named B.method).1, hE, hl⟩ hP
theorem CI.of {l : Launch} {y : MethodName} {ws ws' : List Cond} {rm : Room} {D : va_G} {K : Nat → ClassId} {L : Nat → Prop} {args : List Value} {w w' : va_W} {r : Int32} {cc : ByteArray} {maxL : Nat} {ret : Option FieldType} (hy : plainName y.cls = true) (hw : ws = .code y cc maxL ret :: ws') (hn : (lg_sl args).length ≤ maxL)
    (body : ∀ p e s m below meth c ls, en l p s m meth c y ws cc maxL ret args D K (fr L s.heap.size) ls → va_P D vwCl w s.heap → W p l e rm s m args.toArray below meth c s.heap [] 0 0 (MQ below (va_Qi (fun x (_ : Unit) => x = r) (fun _ t => va_P D vwCl w' t.heap) (fr L s.heap.size)) args.toArray s rm.cells rm.slots (fr L s.heap.size)) (F0 m 0 ls [])) : CI l y ws rm D K L args w w' r := by
  intro sz
  refine met_of hy hw hn ?_
  intro p e s m below meth c ls hsz hen hP
  subst hsz
  exact body p e s m below meth c ls hen hP
theorem CL.of {l : Launch} {y : MethodName} {ws ws' : List Cond} {rm : Room} {D : va_G} {K : Nat → ClassId} {L : Nat → Prop} {args : List Value} {w w' : va_W} {r : Int64} {cc : ByteArray} {maxL : Nat} {ret : Option FieldType} (hy : plainName y.cls = true) (hw : ws = .code y cc maxL ret :: ws') (hn : (lg_sl args).length ≤ maxL)
    (body : ∀ p e s m below meth c ls, en l p s m meth c y ws cc maxL ret args D K (fr L s.heap.size) ls → va_P D vwCl w s.heap → W p l e rm s m args.toArray below meth c s.heap [] 0 0 (MQ below (va_Ql (fun x (_ : Unit) => x = r) (fun _ t => va_P D vwCl w' t.heap) (fr L s.heap.size)) args.toArray s rm.cells rm.slots (fr L s.heap.size)) (F0 m 0 ls [])) : CL l y ws rm D K L args w w' r := by
  intro sz
  refine met_of hy hw hn ?_
  intro p e s m below meth c ls hsz hen hP
  subst hsz
  exact body p e s m below meth c ls hen hP
theorem CF.of {l : Launch} {y : MethodName} {ws ws' : List Cond} {rm : Room} {D : va_G} {K : Nat → ClassId} {L : Nat → Prop} {args : List Value} {w w' : va_W} {r : UInt32} {cc : ByteArray} {maxL : Nat} {ret : Option FieldType} (hy : plainName y.cls = true) (hw : ws = .code y cc maxL ret :: ws') (hn : (lg_sl args).length ≤ maxL)
    (body : ∀ p e s m below meth c ls, en l p s m meth c y ws cc maxL ret args D K (fr L s.heap.size) ls → va_P D vwCl w s.heap → W p l e rm s m args.toArray below meth c s.heap [] 0 0 (MQ below (va_Qf (fun x (_ : Unit) => x = r) (fun _ t => va_P D vwCl w' t.heap) (fr L s.heap.size)) args.toArray s rm.cells rm.slots (fr L s.heap.size)) (F0 m 0 ls [])) : CF l y ws rm D K L args w w' r := by
  intro sz
  refine met_of hy hw hn ?_
  intro p e s m below meth c ls hsz hen hP
  subst hsz
  exact body p e s m below meth c ls hen hP
theorem CV.of {l : Launch} {y : MethodName} {ws ws' : List Cond} {rm : Room} {D : va_G} {K : Nat → ClassId} {L : Nat → Prop} {args : List Value} {w w' : va_W} {cc : ByteArray} {maxL : Nat} {ret : Option FieldType} (hy : plainName y.cls = true) (hw : ws = .code y cc maxL ret :: ws') (hn : (lg_sl args).length ≤ maxL)
    (body : ∀ p e s m below meth c ls, en l p s m meth c y ws cc maxL ret args D K (fr L s.heap.size) ls → va_P D vwCl w s.heap → W p l e rm s m args.toArray below meth c s.heap [] 0 0 (MQ below (va_Qv (fun (_ : Unit) => True) (fun _ t => va_P D vwCl w' t.heap) (fr L s.heap.size)) args.toArray s rm.cells rm.slots (fr L s.heap.size)) (F0 m 0 ls [])) : CV l y ws rm D K L args w w' := by
  intro sz
  refine met_of hy hw hn ?_
  intro p e s m below meth c ls hsz hen hP
  subst hsz
  exact body p e s m below meth c ls hen hP
theorem vmet_of {l : Launch} {y : MethodName} {ws ws' : List Cond} {rm : Room} {D : va_G} {K : Nat → ClassId} {L : Nat → Prop} {args : List Value} {w : va_W} {sz : Nat} {Qc : Array Value → State → Outcome → State → Prop} {XC : String → State → State → Prop} {cc : ByteArray} {maxL : Nat} {ret : Option FieldType} (hy : plainName y.cls = true) (hw : ws = .code y cc maxL ret :: ws') (hn : (lg_sl args).length ≤ maxL)
    (body : ∀ p e s m below meth c ls, s.heap.size = sz → en l p s m meth c y ws cc maxL ret args D K (fr L s.heap.size) ls → (∀ x ∈ c.exceptionTable.toList, False) → va_P D vwCl w s.heap → W p l e rm s m args.toArray below meth c s.heap [] 0 0 (vx_MQ below Qc XC args.toArray s rm.cells rm.slots (fr L s.heap.size)) (F0 m 0 ls [])) : vx_Met l y ws rm (va_Pc args (pre D K L w sz)) Qc XC rm.cells rm.slots (fr L sz) := by
  refine vx_ofW (cc := cc) (maxL := maxL) (ret := ret) hy hw ?_
  intro p e s m a below meth c s₁ B hml hxt hv
  obtain ⟨rfl, hsz, hE, hP⟩ := hv
  subst hsz
  have hl := lv_entry args (n := maxL) hn
  rw [lg_entry_eq]
  exact body p e s m below meth c _ rfl ⟨B.exec, B.bytes, B.returns, atoms_spec (ws := ws) B.pre, findClass_of_methodNamed B.named, B.notSynchronized, hml, (name_of_methodNamed B.named B.method).1, hE, hl⟩ hxt hP
theorem XI.of {l : Launch} {y : MethodName} {ws ws' : List Cond} {rm : Room} {D : va_G} {K : Nat → ClassId} {L : Nat → Prop} {args : List Value} {w w' : va_W} {E : Option String} {r : Int32} {cc : ByteArray} {maxL : Nat} {ret : Option FieldType} (hy : plainName y.cls = true) (hw : ws = .code y cc maxL ret :: ws') (hn : (lg_sl args).length ≤ maxL)
    (body : ∀ p e s m below meth c ls, en l p s m meth c y ws cc maxL ret args D K (fr L s.heap.size) ls → (∀ x ∈ c.exceptionTable.toList, False) → va_P D vwCl w s.heap → W p l e rm s m args.toArray below meth c s.heap [] 0 0 (vx_MQ below (va_Qi (fun x (_ : Unit) => E = none ∧ x = r) (fun _ t => va_P D vwCl w' t.heap) (fr L s.heap.size)) (xc D w (fr L s.heap.size) E) args.toArray s rm.cells rm.slots (fr L s.heap.size)) (F0 m 0 ls [])) : XI l y ws rm D K L args w w' E r := by
  intro sz
  refine vmet_of hy hw hn ?_
  intro p e s m below meth c ls hsz hen hxt hP
  subst hsz
  exact body p e s m below meth c ls hen hxt hP
theorem XF.of {l : Launch} {y : MethodName} {ws ws' : List Cond} {rm : Room} {D : va_G} {K : Nat → ClassId} {L : Nat → Prop} {args : List Value} {w w' : va_W} {E : Option String} {r : UInt32} {cc : ByteArray} {maxL : Nat} {ret : Option FieldType} (hy : plainName y.cls = true) (hw : ws = .code y cc maxL ret :: ws') (hn : (lg_sl args).length ≤ maxL)
    (body : ∀ p e s m below meth c ls, en l p s m meth c y ws cc maxL ret args D K (fr L s.heap.size) ls → (∀ x ∈ c.exceptionTable.toList, False) → va_P D vwCl w s.heap → W p l e rm s m args.toArray below meth c s.heap [] 0 0 (vx_MQ below (va_Qf (fun x (_ : Unit) => E = none ∧ x = r) (fun _ t => va_P D vwCl w' t.heap) (fr L s.heap.size)) (xc D w (fr L s.heap.size) E) args.toArray s rm.cells rm.slots (fr L s.heap.size)) (F0 m 0 ls [])) : XF l y ws rm D K L args w w' E r := by
  intro sz
  refine vmet_of hy hw hn ?_
  intro p e s m below meth c ls hsz hen hxt hP
  subst hsz
  exact body p e s m below meth c ls hen hxt hP
theorem XV.of {l : Launch} {y : MethodName} {ws ws' : List Cond} {rm : Room} {D : va_G} {K : Nat → ClassId} {L : Nat → Prop} {args : List Value} {w w' : va_W} {E : Option String} {cc : ByteArray} {maxL : Nat} {ret : Option FieldType} (hy : plainName y.cls = true) (hw : ws = .code y cc maxL ret :: ws') (hn : (lg_sl args).length ≤ maxL)
    (body : ∀ p e s m below meth c ls, en l p s m meth c y ws cc maxL ret args D K (fr L s.heap.size) ls → (∀ x ∈ c.exceptionTable.toList, False) → va_P D vwCl w s.heap → W p l e rm s m args.toArray below meth c s.heap [] 0 0 (vx_MQ below (va_Qv (fun (_ : Unit) => E = none) (fun _ t => va_P D vwCl w' t.heap) (fr L s.heap.size)) (xc D w (fr L s.heap.size) E) args.toArray s rm.cells rm.slots (fr L s.heap.size)) (F0 m 0 ls [])) : XV l y ws rm D K L args w w' E := by
  intro sz
  refine vmet_of hy hw hn ?_
  intro p e s m below meth c ls hsz hen hxt hP
  subst hsz
  exact body p e s m below meth c ls hen hxt hP
theorem pw {D : va_G} {w : va_W} {t : State} {H : Heap} (h : t.heap = H) (hP : va_P D vwCl w H) : va_P D vwCl w t.heap := by rw [h]; exact hP
section ENDS
variable {p : Program} {l : Launch} {e : Env} {R : Room} {s : State} {m : MethodId} {args : Array Value} {below : List Frame} {meth : Method} {c : Code} {H : Heap} {locs : List Loc} {cells slots : Nat}
variable {cc : ByteArray} {pc : Nat} {ls : Array Slot} {D : va_G} {w w' : va_W} {A : Nat → Prop} {mc ms : Nat} {E : Option String}
/-! the ends -/
theorem ei {v r : Int32} (hx : p.tables.exec = Jvm.exec) (hb : c.code = cc) (hr : meth.sig.returnType = some .int) (hlk : meth.locks = false) (hS : va_S A s.heap H locs) (hP : va_P D vwCl w H) (hw : w = w') (hv : v = r) (hc : cells ≤ mc) (hs : slots ≤ ms) (hd : decode cc pc = .ok (.ireturn, 1)) :
    W p l e R s m args below meth c H locs cells slots (MQ below (va_Qi (fun x (_ : Unit) => x = r) (fun _ t => va_P D vwCl w' t.heap) A) args s mc ms A) (F0 m pc ls [.int v]) := by
  subst hw
  refine W.widen hc hs ?_
  exact W.iret (v := v) hx hb hr (fun t ht hW => ⟨⟨v, (), rfl, hv, pw ht hP⟩, hS.F ht⟩) hS.2.2 hd hlk
theorem ez {v r : Int32} (hx : p.tables.exec = Jvm.exec) (hb : c.code = cc) (hr : meth.sig.returnType = some .boolean) (hlk : meth.locks = false) (hS : va_S A s.heap H locs) (hP : va_P D vwCl w H) (hw : w = w') (hv : v = r) (hn : narrow .boolean (.int v) = .int v) (hc : cells ≤ mc) (hs : slots ≤ ms) (hd : decode cc pc = .ok (.ireturn, 1)) :
    W p l e R s m args below meth c H locs cells slots (MQ below (va_Qi (fun x (_ : Unit) => x = r) (fun _ t => va_P D vwCl w' t.heap) A) args s mc ms A) (F0 m pc ls [.int v]) := by
  subst hw
  refine W.widen hc hs ?_
  exact W.zret (v := v) (ty := .boolean) hx hb hr hn (fun t ht hW => ⟨⟨v, (), rfl, hv, pw ht hP⟩, hS.F ht⟩) hS.2.2 hd hlk
theorem el {v r : Int64} (hx : p.tables.exec = Jvm.exec) (hb : c.code = cc) (hr : meth.sig.returnType = some .long) (hlk : meth.locks = false) (hS : va_S A s.heap H locs) (hP : va_P D vwCl w H) (hw : w = w') (hv : v = r) (hc : cells ≤ mc) (hs : slots ≤ ms) (hd : decode cc pc = .ok (.lreturn, 1)) :
    W p l e R s m args below meth c H locs cells slots (MQ below (va_Ql (fun x (_ : Unit) => x = r) (fun _ t => va_P D vwCl w' t.heap) A) args s mc ms A) (F0 m pc ls [.long v]) := by
  subst hw
  refine W.widen hc hs ?_
  exact W.lret (v := v) hx hb hr (fun t ht hW => ⟨⟨v, (), rfl, hv, pw ht hP⟩, hS.F ht⟩) hS.2.2 hd hlk
theorem ef {v r : UInt32} (hx : p.tables.exec = Jvm.exec) (hb : c.code = cc) (hr : meth.sig.returnType = some .float) (hlk : meth.locks = false) (hS : va_S A s.heap H locs) (hP : va_P D vwCl w H) (hw : w = w') (hv : v = r) (hc : cells ≤ mc) (hs : slots ≤ ms) (hd : decode cc pc = .ok (.freturn, 1)) :
    W p l e R s m args below meth c H locs cells slots (MQ below (va_Qf (fun x (_ : Unit) => x = r) (fun _ t => va_P D vwCl w' t.heap) A) args s mc ms A) (F0 m pc ls [.float v]) := by
  subst hw
  refine W.widen hc hs ?_
  exact W.fret (v := v) hx hb hr (fun t ht hW => ⟨⟨v, (), rfl, hv, pw ht hP⟩, hS.F ht⟩) hS.2.2 hd hlk
theorem e0 (hx : p.tables.exec = Jvm.exec) (hb : c.code = cc) (hr : meth.sig.returnType = none) (hlk : meth.locks = false) (hS : va_S A s.heap H locs) (hP : va_P D vwCl w H) (hw : w = w') (hc : cells ≤ mc) (hs : slots ≤ ms) (hd : decode cc pc = .ok (.return_, 1)) :
    W p l e R s m args below meth c H locs cells slots (MQ below (va_Qv (fun (_ : Unit) => True) (fun _ t => va_P D vwCl w' t.heap) A) args s mc ms A) (F0 m pc ls []) := by
  subst hw
  refine W.widen hc hs ?_
  exact W.vret hx hb hr (fun t ht hW => ⟨⟨(), rfl, trivial, pw ht hP⟩, hS.F ht⟩) hS.2.2 hd hlk
theorem xei {XC : String → State → State → Prop} {v r : Int32} (hx : p.tables.exec = Jvm.exec) (hb : c.code = cc) (hr : meth.sig.returnType = some .int) (hlk : meth.locks = false) (hS : va_S A s.heap H locs) (hP : va_P D vwCl w H) (hw : w = w') (hE : E = none) (hv : v = r) (hc : cells ≤ mc) (hs : slots ≤ ms) (hd : decode cc pc = .ok (.ireturn, 1)) :
    W p l e R s m args below meth c H locs cells slots (vx_MQ below (va_Qi (fun x (_ : Unit) => E = none ∧ x = r) (fun _ t => va_P D vwCl w' t.heap) A) XC args s mc ms A) (F0 m pc ls [.int v]) := by
  subst hw
  refine vx_ret ?_
  refine W.widen hc hs ?_
  exact W.iret (v := v) hx hb hr (fun t ht hW => ⟨⟨v, (), rfl, ⟨hE, hv⟩, pw ht hP⟩, hS.F ht⟩) hS.2.2 hd hlk
theorem xez {XC : String → State → State → Prop} {v r : Int32} (hx : p.tables.exec = Jvm.exec) (hb : c.code = cc) (hr : meth.sig.returnType = some .boolean) (hlk : meth.locks = false) (hS : va_S A s.heap H locs) (hP : va_P D vwCl w H) (hw : w = w') (hE : E = none) (hv : v = r) (hn : narrow .boolean (.int v) = .int v) (hc : cells ≤ mc) (hs : slots ≤ ms) (hd : decode cc pc = .ok (.ireturn, 1)) :
    W p l e R s m args below meth c H locs cells slots (vx_MQ below (va_Qi (fun x (_ : Unit) => E = none ∧ x = r) (fun _ t => va_P D vwCl w' t.heap) A) XC args s mc ms A) (F0 m pc ls [.int v]) := by
  subst hw
  refine vx_ret ?_
  refine W.widen hc hs ?_
  exact W.zret (v := v) (ty := .boolean) hx hb hr hn (fun t ht hW => ⟨⟨v, (), rfl, ⟨hE, hv⟩, pw ht hP⟩, hS.F ht⟩) hS.2.2 hd hlk
theorem xef {XC : String → State → State → Prop} {v r : UInt32} (hx : p.tables.exec = Jvm.exec) (hb : c.code = cc) (hr : meth.sig.returnType = some .float) (hlk : meth.locks = false) (hS : va_S A s.heap H locs) (hP : va_P D vwCl w H) (hw : w = w') (hE : E = none) (hv : v = r) (hc : cells ≤ mc) (hs : slots ≤ ms) (hd : decode cc pc = .ok (.freturn, 1)) :
    W p l e R s m args below meth c H locs cells slots (vx_MQ below (va_Qf (fun x (_ : Unit) => E = none ∧ x = r) (fun _ t => va_P D vwCl w' t.heap) A) XC args s mc ms A) (F0 m pc ls [.float v]) := by
  subst hw
  refine vx_ret ?_
  refine W.widen hc hs ?_
  exact W.fret (v := v) hx hb hr (fun t ht hW => ⟨⟨v, (), rfl, ⟨hE, hv⟩, pw ht hP⟩, hS.F ht⟩) hS.2.2 hd hlk
theorem xe0 {XC : String → State → State → Prop} (hx : p.tables.exec = Jvm.exec) (hb : c.code = cc) (hr : meth.sig.returnType = none) (hlk : meth.locks = false) (hS : va_S A s.heap H locs) (hP : va_P D vwCl w H) (hw : w = w') (hE : E = none) (hc : cells ≤ mc) (hs : slots ≤ ms) (hd : decode cc pc = .ok (.return_, 1)) :
    W p l e R s m args below meth c H locs cells slots (vx_MQ below (va_Qv (fun (_ : Unit) => E = none) (fun _ t => va_P D vwCl w' t.heap) A) XC args s mc ms A) (F0 m pc ls []) := by
  subst hw
  refine vx_ret ?_
  refine W.widen hc hs ?_
  exact W.vret hx hb hr (fun t ht hW => ⟨⟨(), rfl, hE, pw ht hP⟩, hS.F ht⟩) hS.2.2 hd hlk
/-- the kit's own throw of a class X with a text, at ldc or ldc_w -/
theorem xth {K : Nat → ClassId} {Qc : Array Value → State → Outcome → State → Prop} {Ts : List Cond} {X text : String} {ik is ic : Nat} {rest : List Value} (hx : p.tables.exec = Jvm.exec) (hb : c.code = cc) (hl : l.stackTraces = false) (hown : s.vm.findClass RX4 = some m.cls)
    (hts : ∀ q ∈ Ts, q.before args s = true) (hX : X ∈ [xIS, xIA, xIO]) (hT : (is, text) ∈ strL)
    (hfit : Bundle.fit X = true) (hk : Cond.classLink RX4 ik X ∈ Ts) (hini : Cond.initialized X ∈ Ts) (hat : ∀ q ∈ (vx_atS RX4 ic X ["java/lang/RuntimeException", "java/lang/Exception"]).filter goodWord, q ∈ Ts)
    (hng : ∀ q ∈ (vx_atS RX4 ic X ["java/lang/RuntimeException", "java/lang/Exception"]).filter (fun q => !goodWord q), q ∈ [Cond.castable X X, Cond.declares (Bundle.initS "java/lang/RuntimeException"), Cond.declares (Bundle.initS "java/lang/Exception"), Cond.declares (Bundle.initS "java/lang/Throwable")])
    (hgood : ∀ q ∈ Cond.classLink RX4 ik X :: Cond.initialized X :: vx_atS RX4 ic X ["java/lang/RuntimeException", "java/lang/Exception"], vx_ot q = true)
    (hE : ev D K A s) (hS : va_S A s.heap H locs) (hP : va_P D vwCl w H) (hEx : E = some X) (hsize : ls.size = c.maxLocals)
    (d0 : decode cc pc = .ok (.new ik, 3)) (d3 : decode cc (pc + 3) = .ok (.dup, 1)) (d4 : (decode cc (pc + 4) = .ok (.ldc is, 2) ∧ decode cc (pc + 6) = .ok (.invokespecial ic, 3) ∧ decode cc (pc + 9) = .ok (.athrow, 1)) ∨ (decode cc (pc + 4) = .ok (.ldc_w is, 3) ∧ decode cc (pc + 7) = .ok (.invokespecial ic, 3) ∧ decode cc (pc + 10) = .ok (.athrow, 1)))
    (hout : ∀ x ∈ c.exceptionTable.toList, False) (hRf : 5 < R.frames) (hRl : (rest.map fun v => v.category).sum + 82 ≤ R.locals) (hRc : cells + 1 ≤ R.cells) (hRs : slots + 6 ≤ R.slots) (hlk : meth.locks = false) (hc : cells + 1 ≤ mc) (hs : slots + 6 ≤ ms) :
    W p l e R s m args below meth c H locs cells slots (vx_MQ below Qc (xc D w A E) args s mc ms A) (F0 m pc ls rest) := by
  obtain ⟨h1, h2, h3, h4, h5, h6, h7⟩ := hE
  obtain ⟨sa, hsa⟩ := h5 _ hT
  have hcst : (Cond.castable X X).before args s = true := va_Nw.use rfl (h6 X hX)
  have hxx : ∀ t : State, s.vm.Alike t.vm → H.size ≤ t.heap.size → (∀ q : Nat, q < H.size → t.heap[q]? = H[q]?) → xc D w A E X s t := fun t _ hz hq => ⟨(), trivial, ⟨hEx, hP.kept (fun k q hk => hq q.1 ((hP k q hk).lt))⟩, Nat.le_trans hS.1 hz, fun q h1 h2 => (hq q (Nat.lt_of_lt_of_le h1 hS.1)).trans (hS.2.1 q h1 h2)⟩
  have hat' : ∀ q ∈ vx_atS RX4 ic X ["java/lang/RuntimeException", "java/lang/Exception"], q.before args s = true := vx_hat (B := [Cond.castable X X, Cond.declares (Bundle.initS "java/lang/RuntimeException"), Cond.declares (Bundle.initS "java/lang/Exception"), Cond.declares (Bundle.initS "java/lang/Throwable")]) (fun q hq => hts q (hat q hq)) hng (vx_c hcst (vx_c (va_Nw.use rfl (h7 _ (List.mem_of_getElem? (i := 0) rfl))) (vx_c (va_Nw.use rfl (h7 _ (List.mem_of_getElem? (i := 1) rfl))) (vx_c (va_Nw.use rfl (h7 _ (List.mem_of_getElem? (i := 2) rfl))) vx_n))))
  have hnm : ∀ n ∈ ["java/lang/RuntimeException", "java/lang/Exception"], Bundle.fit n = true := by decide +kernel
  rcases d4 with ⟨d4, d6, d9⟩ | ⟨d4, d6, d9⟩
  · exact vx_throwS (names := ["java/lang/RuntimeException", "java/lang/Exception"]) hx hb hl hown hfit hnm (hts _ hk) (hts _ hini) hsa hat' hgood h3 h4 hS hsize d0 d3 d4 d6 d9 (fun x hx => absurd (hout x hx) id) hRf hRl hRc hRs hlk hxx hS.2.2 hc hs
  · exact vx_throwSW (names := ["java/lang/RuntimeException", "java/lang/Exception"]) hx hb hl hown hfit hnm (hts _ hk) (hts _ hini) hsa hat' hgood h3 h4 hS hsize d0 d3 d4 d6 d9 (fun x hx => absurd (hout x hx) id) hRf hRl hRc hRs hlk hxx hS.2.2 hc hs
end ENDS
end
section
section CALLS
variable {p : Program} {l : Launch} {e : Env} {R : Room} {s : State} {m : MethodId} {args : Array Value} {below : List Frame} {meth : Method} {c : Code} {H : Heap} {locs : List Loc} {cells slots : Nat} {Q : State → Prop}
variable {cc : ByteArray} {pc nL n index maxL : Nat} {ls : Array Slot} {D : va_G} {K : Nat → ClassId} {L A : Nat → Prop} {w w' : va_W} {y : MethodName} {ws Ts : List Cond} {rm : Room} {b : Addr} {As rest st0 : List Value} {own C host : String} {bytes : ByteArray} {ty : FieldType} {T : u_T} {N ci : Nat}
/-- a call's start, out of what the caller holds -/
theorem k_pre (hE : ev D K A s) (hP : va_P D vwCl w H) (hS : va_S A s.heap H locs) (hA : ∀ q, fr L H.size q → A q) {av : List Value} : ∀ U : State, U.heap = H → s.WarmedH U.vm → va_Pc av (pre D K L w H.size) av.toArray U := fun U hU hW => ⟨rfl, by rw [hU], ev.call hE hS hU hW hA, by rw [hU]; exact hP⟩
theorem k_zero {x k : Nat} (h : k = 0) : x + k = x := by rw [h]; rfl
theorem kiV {r : Int32} (S : CallFix p m c cc nL s args Ts own) (hC : CI l y ws rm D K L (.ref b :: As) w w' r) (cw : CallW R s args own C index y bytes maxL (some ty) ws rm rm.cells rm.slots n) (hz0 : rm.cells = 0) (hz1 : rm.slots = 0) (q0 : Nat) {fs : List Value} (he : w[q0]? = some (b, .inr (ci, fs))) (hcl : vwCl[ci]? = some (C, T, N)) (hE : ev D K A s) (hP : va_P D vwCl w H) (hS : va_S A s.heap H locs) (hA : ∀ q, fr L H.size q → A q) (hn : As.length = n) (hsize : ls.size = nL) (hst : st0 = As.reverse ++ .ref b :: rest) (hW : (rest.map fun v => v.category).sum ≤ 8) (hdg : decode cc pc = .ok (.invokevirtual index, 3)) (hf : cells ≤ R.cells ∧ slots ≤ R.slots)
    (kk : ∀ (H1 : Heap) (locs1 : List Loc), va_P D vwCl w' H1 → (∀ q, q < H.size → ¬ fr L H.size q → H1[q]? = H[q]?) → H.size ≤ H1.size → va_S A s.heap H1 locs1 → W p l e R s m args below meth c H1 locs1 cells slots Q (F0 m (pc + 3) ls (.int r :: rest))) : W p l e R s m args below meth c H locs cells slots Q (F0 m pc ls st0) := by
  refine va_calli (va_runV (As := As) (rest := rest) (g := F0 m pc ls st0) S (hC H.size) cw ⟨pre_blind, va_recv hE.1 hP hcl he, k_pre hE hP hS hA⟩ rfl hn hsize hst (lv_room hW) hdg (by rw [hz0, hz1]; exact hf)) hS (fun q _ h => hA q h) hA (fun x u t H1 locs1 ht hvm hw hB hz hk hS1 => ?_)
  subst hw
  rw [k_zero hz0, k_zero hz1]
  exact kk H1 locs1 (by rw [← ht]; exact hB) hk hz hS1
theorem kiS {r : Int32} (S : CallFix p m c cc nL s args Ts own) (hC : CI l y ws rm D K L (As) w w' r) (cw : CallB R s args own index y bytes maxL (some ty) ws rm rm.cells rm.slots n ∧ (Cond.static y).before args s = true) (hz0 : rm.cells = 0) (hz1 : rm.slots = 0) (hE : ev D K A s) (hP : va_P D vwCl w H) (hS : va_S A s.heap H locs) (hA : ∀ q, fr L H.size q → A q) (hn : As.length = n) (hsize : ls.size = nL) (hst : st0 = As.reverse ++ rest) (hW : (rest.map fun v => v.category).sum ≤ 8) (hdg : decode cc pc = .ok (.invokestatic index, 3)) (hf : cells ≤ R.cells ∧ slots ≤ R.slots)
    (kk : ∀ (H1 : Heap) (locs1 : List Loc), va_P D vwCl w' H1 → (∀ q, q < H.size → ¬ fr L H.size q → H1[q]? = H[q]?) → H.size ≤ H1.size → va_S A s.heap H1 locs1 → W p l e R s m args below meth c H1 locs1 cells slots Q (F0 m (pc + 3) ls (.int r :: rest))) : W p l e R s m args below meth c H locs cells slots Q (F0 m pc ls st0) := by
  refine va_calli (va_runS (As := As) (rest := rest) (g := F0 m pc ls st0) S (hC H.size) cw ⟨pre_blind, k_pre hE hP hS hA⟩ rfl hn hsize hst (lv_room hW) hdg (by rw [hz0, hz1]; exact hf)) hS (fun q _ h => hA q h) hA (fun x u t H1 locs1 ht hvm hw hB hz hk hS1 => ?_)
  subst hw
  rw [k_zero hz0, k_zero hz1]
  exact kk H1 locs1 (by rw [← ht]; exact hB) hk hz hS1
theorem kiSN {r : Int32} (S : CallFix p m c cc nL s args Ts own) (hC : CI l y ws rm D K L (As) w w' r) (cw : va_CN R s args own index y host bytes maxL (some ty) ws rm rm.cells rm.slots n ∧ (Cond.static y).before args s = true ∧ True) (hz0 : rm.cells = 0) (hz1 : rm.slots = 0) (hE : ev D K A s) (hP : va_P D vwCl w H) (hS : va_S A s.heap H locs) (hA : ∀ q, fr L H.size q → A q) (hn : As.length = n) (hsize : ls.size = nL) (hst : st0 = As.reverse ++ rest) (hW : (rest.map fun v => v.category).sum ≤ 8) (hdg : decode cc pc = .ok (.invokestatic index, 3)) (hf : cells ≤ R.cells ∧ slots ≤ R.slots)
    (kk : ∀ (H1 : Heap) (locs1 : List Loc), va_P D vwCl w' H1 → (∀ q, q < H.size → ¬ fr L H.size q → H1[q]? = H[q]?) → H.size ≤ H1.size → va_S A s.heap H1 locs1 → W p l e R s m args below meth c H1 locs1 cells slots Q (F0 m (pc + 3) ls (.int r :: rest))) : W p l e R s m args below meth c H locs cells slots Q (F0 m pc ls st0) := by
  refine va_calli (va_runSN (As := As) (rest := rest) (g := F0 m pc ls st0) S (hC H.size) cw ⟨pre_blind, k_pre hE hP hS hA⟩ rfl hn hsize hst (lv_room hW) hdg (by rw [hz0, hz1]; exact hf)) hS (fun q _ h => hA q h) hA (fun x u t H1 locs1 ht hvm hw hB hz hk hS1 => ?_)
  subst hw
  rw [k_zero hz0, k_zero hz1]
  exact kk H1 locs1 (by rw [← ht]; exact hB) hk hz hS1
theorem klV {r : Int64} (S : CallFix p m c cc nL s args Ts own) (hC : CL l y ws rm D K L (.ref b :: As) w w' r) (cw : CallW R s args own C index y bytes maxL (some ty) ws rm rm.cells rm.slots n) (hz0 : rm.cells = 0) (hz1 : rm.slots = 0) (q0 : Nat) {fs : List Value} (he : w[q0]? = some (b, .inr (ci, fs))) (hcl : vwCl[ci]? = some (C, T, N)) (hE : ev D K A s) (hP : va_P D vwCl w H) (hS : va_S A s.heap H locs) (hA : ∀ q, fr L H.size q → A q) (hn : As.length = n) (hsize : ls.size = nL) (hst : st0 = As.reverse ++ .ref b :: rest) (hW : (rest.map fun v => v.category).sum ≤ 8) (hdg : decode cc pc = .ok (.invokevirtual index, 3)) (hf : cells ≤ R.cells ∧ slots ≤ R.slots)
    (kk : ∀ (H1 : Heap) (locs1 : List Loc), va_P D vwCl w' H1 → (∀ q, q < H.size → ¬ fr L H.size q → H1[q]? = H[q]?) → H.size ≤ H1.size → va_S A s.heap H1 locs1 → W p l e R s m args below meth c H1 locs1 cells slots Q (F0 m (pc + 3) ls (.long r :: rest))) : W p l e R s m args below meth c H locs cells slots Q (F0 m pc ls st0) := by
  refine va_calll (va_runV (As := As) (rest := rest) (g := F0 m pc ls st0) S (hC H.size) cw ⟨pre_blind, va_recv hE.1 hP hcl he, k_pre hE hP hS hA⟩ rfl hn hsize hst (lv_room hW) hdg (by rw [hz0, hz1]; exact hf)) hS (fun q _ h => hA q h) hA (fun x u t H1 locs1 ht hvm hw hB hz hk hS1 => ?_)
  subst hw
  rw [k_zero hz0, k_zero hz1]
  exact kk H1 locs1 (by rw [← ht]; exact hB) hk hz hS1
theorem kfV {r : UInt32} (S : CallFix p m c cc nL s args Ts own) (hC : CF l y ws rm D K L (.ref b :: As) w w' r) (cw : CallW R s args own C index y bytes maxL (some ty) ws rm rm.cells rm.slots n) (hz0 : rm.cells = 0) (hz1 : rm.slots = 0) (q0 : Nat) {fs : List Value} (he : w[q0]? = some (b, .inr (ci, fs))) (hcl : vwCl[ci]? = some (C, T, N)) (hE : ev D K A s) (hP : va_P D vwCl w H) (hS : va_S A s.heap H locs) (hA : ∀ q, fr L H.size q → A q) (hn : As.length = n) (hsize : ls.size = nL) (hst : st0 = As.reverse ++ .ref b :: rest) (hW : (rest.map fun v => v.category).sum ≤ 8) (hdg : decode cc pc = .ok (.invokevirtual index, 3)) (hf : cells ≤ R.cells ∧ slots ≤ R.slots)
    (kk : ∀ (H1 : Heap) (locs1 : List Loc), va_P D vwCl w' H1 → (∀ q, q < H.size → ¬ fr L H.size q → H1[q]? = H[q]?) → H.size ≤ H1.size → va_S A s.heap H1 locs1 → W p l e R s m args below meth c H1 locs1 cells slots Q (F0 m (pc + 3) ls (.float r :: rest))) : W p l e R s m args below meth c H locs cells slots Q (F0 m pc ls st0) := by
  refine va_callf (va_runV (As := As) (rest := rest) (g := F0 m pc ls st0) S (hC H.size) cw ⟨pre_blind, va_recv hE.1 hP hcl he, k_pre hE hP hS hA⟩ rfl hn hsize hst (lv_room hW) hdg (by rw [hz0, hz1]; exact hf)) hS (fun q _ h => hA q h) hA (fun x u t H1 locs1 ht hvm hw hB hz hk hS1 => ?_)
  subst hw
  rw [k_zero hz0, k_zero hz1]
  exact kk H1 locs1 (by rw [← ht]; exact hB) hk hz hS1
theorem kvV (S : CallFix p m c cc nL s args Ts own) (hC : CV l y ws rm D K L (.ref b :: As) w w') (cw : CallW R s args own C index y bytes maxL none ws rm rm.cells rm.slots n) (hz0 : rm.cells = 0) (hz1 : rm.slots = 0) (q0 : Nat) {fs : List Value} (he : w[q0]? = some (b, .inr (ci, fs))) (hcl : vwCl[ci]? = some (C, T, N)) (hE : ev D K A s) (hP : va_P D vwCl w H) (hS : va_S A s.heap H locs) (hA : ∀ q, fr L H.size q → A q) (hn : As.length = n) (hsize : ls.size = nL) (hst : st0 = As.reverse ++ .ref b :: rest) (hW : (rest.map fun v => v.category).sum ≤ 8) (hdg : decode cc pc = .ok (.invokevirtual index, 3)) (hf : cells ≤ R.cells ∧ slots ≤ R.slots)
    (kk : ∀ (H1 : Heap) (locs1 : List Loc), va_P D vwCl w' H1 → (∀ q, q < H.size → ¬ fr L H.size q → H1[q]? = H[q]?) → H.size ≤ H1.size → va_S A s.heap H1 locs1 → W p l e R s m args below meth c H1 locs1 cells slots Q (F0 m (pc + 3) ls (rest))) : W p l e R s m args below meth c H locs cells slots Q (F0 m pc ls st0) := by
  refine va_callv (va_runV (As := As) (rest := rest) (g := F0 m pc ls st0) S (hC H.size) cw ⟨pre_blind, va_recv hE.1 hP hcl he, k_pre hE hP hS hA⟩ rfl hn hsize hst (lv_room hW) hdg (by rw [hz0, hz1]; exact hf)) hS (fun q _ h => hA q h) hA (fun u t H1 locs1 ht hvm hw hB hz hk hS1 => ?_)
  rw [k_zero hz0, k_zero hz1]
  exact kk H1 locs1 (by rw [← ht]; exact hB) hk hz hS1
theorem kvS (S : CallFix p m c cc nL s args Ts own) (hC : CV l y ws rm D K L (As) w w') (cw : CallB R s args own index y bytes maxL none ws rm rm.cells rm.slots n ∧ (Cond.static y).before args s = true) (hz0 : rm.cells = 0) (hz1 : rm.slots = 0) (hE : ev D K A s) (hP : va_P D vwCl w H) (hS : va_S A s.heap H locs) (hA : ∀ q, fr L H.size q → A q) (hn : As.length = n) (hsize : ls.size = nL) (hst : st0 = As.reverse ++ rest) (hW : (rest.map fun v => v.category).sum ≤ 8) (hdg : decode cc pc = .ok (.invokestatic index, 3)) (hf : cells ≤ R.cells ∧ slots ≤ R.slots)
    (kk : ∀ (H1 : Heap) (locs1 : List Loc), va_P D vwCl w' H1 → (∀ q, q < H.size → ¬ fr L H.size q → H1[q]? = H[q]?) → H.size ≤ H1.size → va_S A s.heap H1 locs1 → W p l e R s m args below meth c H1 locs1 cells slots Q (F0 m (pc + 3) ls (rest))) : W p l e R s m args below meth c H locs cells slots Q (F0 m pc ls st0) := by
  refine va_callv (va_runS (As := As) (rest := rest) (g := F0 m pc ls st0) S (hC H.size) cw ⟨pre_blind, k_pre hE hP hS hA⟩ rfl hn hsize hst (lv_room hW) hdg (by rw [hz0, hz1]; exact hf)) hS (fun q _ h => hA q h) hA (fun u t H1 locs1 ht hvm hw hB hz hk hS1 => ?_)
  rw [k_zero hz0, k_zero hz1]
  exact kk H1 locs1 (by rw [← ht]; exact hB) hk hz hS1
theorem xiV {r : Int32} {Qc : Array Value → State → Outcome → State → Prop} {w0 : va_W} {E E' : Option String} {mc ms : Nat} (S : CallFix p m c cc nL s args Ts own) (hC : XI l y ws rm D K L (.ref b :: As) w w' E' r) (cw : CallW R s args own C index y bytes maxL (some ty) ws rm rm.cells rm.slots n) (q0 : Nat) {fs : List Value} (he : w[q0]? = some (b, .inr (ci, fs))) (hcl : vwCl[ci]? = some (C, T, N)) (hE : ev D K A s) (hP : va_P D vwCl w H) (hS : va_S A s.heap H locs) (hA : ∀ q, fr L H.size q → A q) (hn : As.length = n) (hsize : ls.size = nL) (hst : st0 = As.reverse ++ .ref b :: rest) (hW : (rest.map fun v => v.category).sum ≤ 8) (hdg : decode cc pc = .ok (.invokevirtual index, 3)) (hf : cells + rm.cells ≤ R.cells ∧ slots + rm.slots ≤ R.slots)
    (hxt : ∀ x ∈ c.exceptionTable.toList, False) (hlk : meth.locks = false) (hmc : cells + rm.cells ≤ mc) (hms : slots + rm.slots ≤ ms) (hEE : ∀ X, E' = some X → E = some X ∧ w = w0)
    (kk : ∀ (H1 : Heap) (locs1 : List Loc), E' = none → va_P D vwCl w' H1 → (∀ q, q < H.size → ¬ fr L H.size q → H1[q]? = H[q]?) → H.size ≤ H1.size → va_S A s.heap H1 locs1 → W p l e R s m args below meth c H1 locs1 (cells + rm.cells) (slots + rm.slots) (vx_MQ below Qc (xc D w0 A E) args s mc ms A) (F0 m (pc + 3) ls (.int r :: rest))) : W p l e R s m args below meth c H locs cells slots (vx_MQ below Qc (xc D w0 A E) args s mc ms A) (F0 m pc ls st0) := by
  refine vx_calli (vx_runV (As := As) (rest := rest) (g := F0 m pc ls st0) S (hC H.size) cw ⟨pre_blind, va_recv hE.1 hP hcl he, k_pre hE hP hS hA⟩ rfl hn hsize hst (lv_room hW) hdg hf) hS (fun q _ h => hA q h) hA (fun q _ h => hA q h) (fun X ce q9 u t H1 locs1 ht hvm hpx hB hz hk hS1 hce hcv hcl => ?_) (fun x u t H1 locs1 ht hvm hw hB hz hk hS1 => ?_)
  · obtain ⟨hX, hP1⟩ := hB
    obtain ⟨hX1, hw0⟩ := hEE X hX
    subst hw0
    exact vx_out (fun x hx => absurd (hxt x hx) id) hlk hce hcv hcl (fun t2 ht2 hvm2 => ⟨(), trivial, ⟨hX1, by rw [ht2, ← ht]; exact hP1⟩, by rw [ht2]; exact hS1.1, fun q h1 h2 => by rw [ht2]; exact hS1.2.1 q h1 h2⟩) hS1.2.2 hmc hms
  · obtain ⟨hw1, hw2⟩ := hw
    subst hw2
    exact kk H1 locs1 hw1 (by rw [← ht]; exact hB) hk hz hS1
theorem xiS {r : Int32} {Qc : Array Value → State → Outcome → State → Prop} {w0 : va_W} {E E' : Option String} {mc ms : Nat} (S : CallFix p m c cc nL s args Ts own) (hC : XI l y ws rm D K L (As) w w' E' r) (cw : CallB R s args own index y bytes maxL (some ty) ws rm rm.cells rm.slots n ∧ (Cond.static y).before args s = true) (hE : ev D K A s) (hP : va_P D vwCl w H) (hS : va_S A s.heap H locs) (hA : ∀ q, fr L H.size q → A q) (hn : As.length = n) (hsize : ls.size = nL) (hst : st0 = As.reverse ++ rest) (hW : (rest.map fun v => v.category).sum ≤ 8) (hdg : decode cc pc = .ok (.invokestatic index, 3)) (hf : cells + rm.cells ≤ R.cells ∧ slots + rm.slots ≤ R.slots)
    (hxt : ∀ x ∈ c.exceptionTable.toList, False) (hlk : meth.locks = false) (hmc : cells + rm.cells ≤ mc) (hms : slots + rm.slots ≤ ms) (hEE : ∀ X, E' = some X → E = some X ∧ w = w0)
    (kk : ∀ (H1 : Heap) (locs1 : List Loc), E' = none → va_P D vwCl w' H1 → (∀ q, q < H.size → ¬ fr L H.size q → H1[q]? = H[q]?) → H.size ≤ H1.size → va_S A s.heap H1 locs1 → W p l e R s m args below meth c H1 locs1 (cells + rm.cells) (slots + rm.slots) (vx_MQ below Qc (xc D w0 A E) args s mc ms A) (F0 m (pc + 3) ls (.int r :: rest))) : W p l e R s m args below meth c H locs cells slots (vx_MQ below Qc (xc D w0 A E) args s mc ms A) (F0 m pc ls st0) := by
  refine vx_calli (vx_runS (As := As) (rest := rest) (g := F0 m pc ls st0) S (hC H.size) cw ⟨pre_blind, k_pre hE hP hS hA⟩ rfl hn hsize hst (lv_room hW) hdg hf) hS (fun q _ h => hA q h) hA (fun q _ h => hA q h) (fun X ce q9 u t H1 locs1 ht hvm hpx hB hz hk hS1 hce hcv hcl => ?_) (fun x u t H1 locs1 ht hvm hw hB hz hk hS1 => ?_)
  · obtain ⟨hX, hP1⟩ := hB
    obtain ⟨hX1, hw0⟩ := hEE X hX
    subst hw0
    exact vx_out (fun x hx => absurd (hxt x hx) id) hlk hce hcv hcl (fun t2 ht2 hvm2 => ⟨(), trivial, ⟨hX1, by rw [ht2, ← ht]; exact hP1⟩, by rw [ht2]; exact hS1.1, fun q h1 h2 => by rw [ht2]; exact hS1.2.1 q h1 h2⟩) hS1.2.2 hmc hms
  · obtain ⟨hw1, hw2⟩ := hw
    subst hw2
    exact kk H1 locs1 hw1 (by rw [← ht]; exact hB) hk hz hS1
theorem xvV {Qc : Array Value → State → Outcome → State → Prop} {w0 : va_W} {E E' : Option String} {mc ms : Nat} (S : CallFix p m c cc nL s args Ts own) (hC : XV l y ws rm D K L (.ref b :: As) w w' E') (cw : CallW R s args own C index y bytes maxL none ws rm rm.cells rm.slots n) (q0 : Nat) {fs : List Value} (he : w[q0]? = some (b, .inr (ci, fs))) (hcl : vwCl[ci]? = some (C, T, N)) (hE : ev D K A s) (hP : va_P D vwCl w H) (hS : va_S A s.heap H locs) (hA : ∀ q, fr L H.size q → A q) (hn : As.length = n) (hsize : ls.size = nL) (hst : st0 = As.reverse ++ .ref b :: rest) (hW : (rest.map fun v => v.category).sum ≤ 8) (hdg : decode cc pc = .ok (.invokevirtual index, 3)) (hf : cells + rm.cells ≤ R.cells ∧ slots + rm.slots ≤ R.slots)
    (hxt : ∀ x ∈ c.exceptionTable.toList, False) (hlk : meth.locks = false) (hmc : cells + rm.cells ≤ mc) (hms : slots + rm.slots ≤ ms) (hEE : ∀ X, E' = some X → E = some X ∧ w = w0)
    (kk : ∀ (H1 : Heap) (locs1 : List Loc), E' = none → va_P D vwCl w' H1 → (∀ q, q < H.size → ¬ fr L H.size q → H1[q]? = H[q]?) → H.size ≤ H1.size → va_S A s.heap H1 locs1 → W p l e R s m args below meth c H1 locs1 (cells + rm.cells) (slots + rm.slots) (vx_MQ below Qc (xc D w0 A E) args s mc ms A) (F0 m (pc + 3) ls (rest))) : W p l e R s m args below meth c H locs cells slots (vx_MQ below Qc (xc D w0 A E) args s mc ms A) (F0 m pc ls st0) := by
  refine vx_callv (vx_runV (As := As) (rest := rest) (g := F0 m pc ls st0) S (hC H.size) cw ⟨pre_blind, va_recv hE.1 hP hcl he, k_pre hE hP hS hA⟩ rfl hn hsize hst (lv_room hW) hdg hf) hS (fun q _ h => hA q h) hA (fun q _ h => hA q h) (fun X ce q9 u t H1 locs1 ht hvm hpx hB hz hk hS1 hce hcv hcl => ?_) (fun u t H1 locs1 ht hvm hw hB hz hk hS1 => ?_)
  · obtain ⟨hX, hP1⟩ := hB
    obtain ⟨hX1, hw0⟩ := hEE X hX
    subst hw0
    exact vx_out (fun x hx => absurd (hxt x hx) id) hlk hce hcv hcl (fun t2 ht2 hvm2 => ⟨(), trivial, ⟨hX1, by rw [ht2, ← ht]; exact hP1⟩, by rw [ht2]; exact hS1.1, fun q h1 h2 => by rw [ht2]; exact hS1.2.1 q h1 h2⟩) hS1.2.2 hmc hms
  · have hw1 := hw
    exact kk H1 locs1 hw1 (by rw [← ht]; exact hB) hk hz hS1
theorem xvS {Qc : Array Value → State → Outcome → State → Prop} {w0 : va_W} {E E' : Option String} {mc ms : Nat} (S : CallFix p m c cc nL s args Ts own) (hC : XV l y ws rm D K L (As) w w' E') (cw : CallB R s args own index y bytes maxL none ws rm rm.cells rm.slots n ∧ (Cond.static y).before args s = true) (hE : ev D K A s) (hP : va_P D vwCl w H) (hS : va_S A s.heap H locs) (hA : ∀ q, fr L H.size q → A q) (hn : As.length = n) (hsize : ls.size = nL) (hst : st0 = As.reverse ++ rest) (hW : (rest.map fun v => v.category).sum ≤ 8) (hdg : decode cc pc = .ok (.invokestatic index, 3)) (hf : cells + rm.cells ≤ R.cells ∧ slots + rm.slots ≤ R.slots)
    (hxt : ∀ x ∈ c.exceptionTable.toList, False) (hlk : meth.locks = false) (hmc : cells + rm.cells ≤ mc) (hms : slots + rm.slots ≤ ms) (hEE : ∀ X, E' = some X → E = some X ∧ w = w0)
    (kk : ∀ (H1 : Heap) (locs1 : List Loc), E' = none → va_P D vwCl w' H1 → (∀ q, q < H.size → ¬ fr L H.size q → H1[q]? = H[q]?) → H.size ≤ H1.size → va_S A s.heap H1 locs1 → W p l e R s m args below meth c H1 locs1 (cells + rm.cells) (slots + rm.slots) (vx_MQ below Qc (xc D w0 A E) args s mc ms A) (F0 m (pc + 3) ls (rest))) : W p l e R s m args below meth c H locs cells slots (vx_MQ below Qc (xc D w0 A E) args s mc ms A) (F0 m pc ls st0) := by
  refine vx_callv (vx_runS (As := As) (rest := rest) (g := F0 m pc ls st0) S (hC H.size) cw ⟨pre_blind, k_pre hE hP hS hA⟩ rfl hn hsize hst (lv_room hW) hdg hf) hS (fun q _ h => hA q h) hA (fun q _ h => hA q h) (fun X ce q9 u t H1 locs1 ht hvm hpx hB hz hk hS1 hce hcv hcl => ?_) (fun u t H1 locs1 ht hvm hw hB hz hk hS1 => ?_)
  · obtain ⟨hX, hP1⟩ := hB
    obtain ⟨hX1, hw0⟩ := hEE X hX
    subst hw0
    exact vx_out (fun x hx => absurd (hxt x hx) id) hlk hce hcv hcl (fun t2 ht2 hvm2 => ⟨(), trivial, ⟨hX1, by rw [ht2, ← ht]; exact hP1⟩, by rw [ht2]; exact hS1.1, fun q h1 h2 => by rw [ht2]; exact hS1.2.1 q h1 h2⟩) hS1.2.2 hmc hms
  · have hw1 := hw
    exact kk H1 locs1 hw1 (by rw [← ht]; exact hB) hk hz hS1
/-- the same world: the callee may change no more than the caller -/
theorem frs {sz : Nat} {H0 : Heap} (hS : va_S (fr L H0.size) H0 H locs) : ∀ q, fr L H.size q → fr L H0.size q := fun q h => h.elim Or.inl (fun h => Or.inr (Nat.le_trans hS.1 h))
end CALLS
end
section
/-! ===== the two worlds ===== -/
abbrev TU : Type := AI × AL × Int32 × Int32 × Int64 × Int64
abbrev SU : Type := AI × AI × AI × AI × AI × AI × AI × AI × AI
abbrev XU : Type := (Nat → AI) × AI
abbrev BU : Type := AI × AI × AI × AI × Int32
/-- what the class holds: transactions, slots, index, table, mapped, freezingAge -/
abbrev CU : Type := TU × SU × XU × BU × AI × Int32
/-- what the reference holds -/
abbrev MU : Type := Int32 × Int32 × Int32 × AI × AI × AL × Int32 × AI × AI × AI × AI × AI × AI × AI × AI × AI × AI
def c_sp (u : CU) : AI := u.1.1
def c_sn (u : CU) : AL := u.1.2.1
def c_cn (u : CU) : Int32 := u.1.2.2.1
def c_ns (u : CU) : Int32 := u.1.2.2.2.1
def c_ac (u : CU) : Int64 := u.1.2.2.2.2.1
def c_cm (u : CU) : Int64 := u.1.2.2.2.2.2
def c_k (u : CU) : AI := u.2.1.1
def c_v (u : CU) : AI := u.2.1.2.1
def c_b (u : CU) : AI := u.2.1.2.2.1
def c_bs (u : CU) : AI := u.2.1.2.2.2.1
def c_f (u : CU) : AI := u.2.1.2.2.2.2.1
def c_d (u : CU) : AI := u.2.1.2.2.2.2.2.1
def c_ds (u : CU) : AI := u.2.1.2.2.2.2.2.2.1
def c_n (u : CU) : AI := u.2.1.2.2.2.2.2.2.2.1
def c_r (u : CU) : AI := u.2.1.2.2.2.2.2.2.2.2
def c_pl (u : CU) : Nat → AI := u.2.2.1.1
def c_ct (u : CU) : AI := u.2.2.1.2
def c_tk (u : CU) : AI := u.2.2.2.1.1
def c_tv (u : CU) : AI := u.2.2.2.1.2.1
def c_tb (u : CU) : AI := u.2.2.2.1.2.2.1
def c_td (u : CU) : AI := u.2.2.2.1.2.2.2.1
def c_tc (u : CU) : Int32 := u.2.2.2.1.2.2.2.2
def c_mp (u : CU) : AI := u.2.2.2.2.1
def c_fz (u : CU) : Int32 := u.2.2.2.2.2
def s_sp (u : CU) (x : AI) : CU := ((x, u.1.2), u.2)
def s_sn (u : CU) (x : AL) : CU := ((u.1.1, x, u.1.2.2), u.2)
def s_cn (u : CU) (x : Int32) : CU := ((u.1.1, u.1.2.1, x, u.1.2.2.2), u.2)
def s_ns (u : CU) (x : Int32) : CU := ((u.1.1, u.1.2.1, u.1.2.2.1, x, u.1.2.2.2.2), u.2)
def s_ac (u : CU) (x : Int64) : CU := ((u.1.1, u.1.2.1, u.1.2.2.1, u.1.2.2.2.1, x, u.1.2.2.2.2.2), u.2)
def s_cm (u : CU) (x : Int64) : CU := ((u.1.1, u.1.2.1, u.1.2.2.1, u.1.2.2.2.1, u.1.2.2.2.2.1, x), u.2)
def s_k (u : CU) (x : AI) : CU := (u.1, (x, u.2.1.2), u.2.2)
def s_v (u : CU) (x : AI) : CU := (u.1, (u.2.1.1, x, u.2.1.2.2), u.2.2)
def s_b (u : CU) (x : AI) : CU := (u.1, (u.2.1.1, u.2.1.2.1, x, u.2.1.2.2.2), u.2.2)
def s_bs (u : CU) (x : AI) : CU := (u.1, (u.2.1.1, u.2.1.2.1, u.2.1.2.2.1, x, u.2.1.2.2.2.2), u.2.2)
def s_f (u : CU) (x : AI) : CU := (u.1, (u.2.1.1, u.2.1.2.1, u.2.1.2.2.1, u.2.1.2.2.2.1, x, u.2.1.2.2.2.2.2), u.2.2)
def s_d (u : CU) (x : AI) : CU := (u.1, (u.2.1.1, u.2.1.2.1, u.2.1.2.2.1, u.2.1.2.2.2.1, u.2.1.2.2.2.2.1, x, u.2.1.2.2.2.2.2.2), u.2.2)
def s_ds (u : CU) (x : AI) : CU := (u.1, (u.2.1.1, u.2.1.2.1, u.2.1.2.2.1, u.2.1.2.2.2.1, u.2.1.2.2.2.2.1, u.2.1.2.2.2.2.2.1, x, u.2.1.2.2.2.2.2.2.2), u.2.2)
def s_n (u : CU) (x : AI) : CU := (u.1, (u.2.1.1, u.2.1.2.1, u.2.1.2.2.1, u.2.1.2.2.2.1, u.2.1.2.2.2.2.1, u.2.1.2.2.2.2.2.1, u.2.1.2.2.2.2.2.2.1, x, u.2.1.2.2.2.2.2.2.2.2), u.2.2)
def s_r (u : CU) (x : AI) : CU := (u.1, (u.2.1.1, u.2.1.2.1, u.2.1.2.2.1, u.2.1.2.2.2.1, u.2.1.2.2.2.2.1, u.2.1.2.2.2.2.2.1, u.2.1.2.2.2.2.2.2.1, u.2.1.2.2.2.2.2.2.2.1, x), u.2.2)
def s_pl (u : CU) (x : Nat → AI) : CU := (u.1, u.2.1, (x, u.2.2.1.2), u.2.2.2)
def s_ct (u : CU) (x : AI) : CU := (u.1, u.2.1, (u.2.2.1.1, x), u.2.2.2)
def s_tk (u : CU) (x : AI) : CU := (u.1, u.2.1, u.2.2.1, (x, u.2.2.2.1.2), u.2.2.2.2)
def s_tv (u : CU) (x : AI) : CU := (u.1, u.2.1, u.2.2.1, (u.2.2.2.1.1, x, u.2.2.2.1.2.2), u.2.2.2.2)
def s_tb (u : CU) (x : AI) : CU := (u.1, u.2.1, u.2.2.1, (u.2.2.2.1.1, u.2.2.2.1.2.1, x, u.2.2.2.1.2.2.2), u.2.2.2.2)
def s_td (u : CU) (x : AI) : CU := (u.1, u.2.1, u.2.2.1, (u.2.2.2.1.1, u.2.2.2.1.2.1, u.2.2.2.1.2.2.1, x, u.2.2.2.1.2.2.2.2), u.2.2.2.2)
def s_tc (u : CU) (x : Int32) : CU := (u.1, u.2.1, u.2.2.1, (u.2.2.2.1.1, u.2.2.2.1.2.1, u.2.2.2.1.2.2.1, u.2.2.2.1.2.2.2.1, x), u.2.2.2.2)
def s_mp (u : CU) (x : AI) : CU := (u.1, u.2.1, u.2.2.1, u.2.2.2.1, x, u.2.2.2.2.2)
def s_fz (u : CU) (x : Int32) : CU := (u.1, u.2.1, u.2.2.1, u.2.2.2.1, u.2.2.2.2.1, x)
def m_thr (u : MU) : Int32 := u.1
def m_ns (u : MU) : Int32 := u.2.1
def m_fz (u : MU) : Int32 := u.2.2.1
def m_st (u : MU) : AI := u.2.2.2.1
def m_sta (u : MU) : AI := u.2.2.2.2.1
def m_sn (u : MU) : AL := u.2.2.2.2.2.1
def m_cn (u : MU) : Int32 := u.2.2.2.2.2.2.1
def m_us (u : MU) : AI := u.2.2.2.2.2.2.2.1
def m_k (u : MU) : AI := u.2.2.2.2.2.2.2.2.1
def m_v (u : MU) : AI := u.2.2.2.2.2.2.2.2.2.1
def m_b (u : MU) : AI := u.2.2.2.2.2.2.2.2.2.2.1
def m_fr (u : MU) : AI := u.2.2.2.2.2.2.2.2.2.2.2.1
def m_d (u : MU) : AI := u.2.2.2.2.2.2.2.2.2.2.2.2.1
def m_n (u : MU) : AI := u.2.2.2.2.2.2.2.2.2.2.2.2.2.1
def m_mp (u : MU) : AI := u.2.2.2.2.2.2.2.2.2.2.2.2.2.2.1
def m_en (u : MU) : AI := u.2.2.2.2.2.2.2.2.2.2.2.2.2.2.2.1
def m_ec (u : MU) : AI := u.2.2.2.2.2.2.2.2.2.2.2.2.2.2.2.2
def ms_thr (u : MU) (x : Int32) : MU := (x, u.2)
def ms_ns (u : MU) (x : Int32) : MU := (u.1, x, u.2.2)
def ms_fz (u : MU) (x : Int32) : MU := (u.1, u.2.1, x, u.2.2.2)
def ms_st (u : MU) (x : AI) : MU := (u.1, u.2.1, u.2.2.1, x, u.2.2.2.2)
def ms_sta (u : MU) (x : AI) : MU := (u.1, u.2.1, u.2.2.1, u.2.2.2.1, x, u.2.2.2.2.2)
def ms_sn (u : MU) (x : AL) : MU := (u.1, u.2.1, u.2.2.1, u.2.2.2.1, u.2.2.2.2.1, x, u.2.2.2.2.2.2)
def ms_cn (u : MU) (x : Int32) : MU := (u.1, u.2.1, u.2.2.1, u.2.2.2.1, u.2.2.2.2.1, u.2.2.2.2.2.1, x, u.2.2.2.2.2.2.2)
def ms_us (u : MU) (x : AI) : MU := (u.1, u.2.1, u.2.2.1, u.2.2.2.1, u.2.2.2.2.1, u.2.2.2.2.2.1, u.2.2.2.2.2.2.1, x, u.2.2.2.2.2.2.2.2)
def ms_k (u : MU) (x : AI) : MU := (u.1, u.2.1, u.2.2.1, u.2.2.2.1, u.2.2.2.2.1, u.2.2.2.2.2.1, u.2.2.2.2.2.2.1, u.2.2.2.2.2.2.2.1, x, u.2.2.2.2.2.2.2.2.2)
def ms_v (u : MU) (x : AI) : MU := (u.1, u.2.1, u.2.2.1, u.2.2.2.1, u.2.2.2.2.1, u.2.2.2.2.2.1, u.2.2.2.2.2.2.1, u.2.2.2.2.2.2.2.1, u.2.2.2.2.2.2.2.2.1, x, u.2.2.2.2.2.2.2.2.2.2)
def ms_b (u : MU) (x : AI) : MU := (u.1, u.2.1, u.2.2.1, u.2.2.2.1, u.2.2.2.2.1, u.2.2.2.2.2.1, u.2.2.2.2.2.2.1, u.2.2.2.2.2.2.2.1, u.2.2.2.2.2.2.2.2.1, u.2.2.2.2.2.2.2.2.2.1, x, u.2.2.2.2.2.2.2.2.2.2.2)
def ms_fr (u : MU) (x : AI) : MU := (u.1, u.2.1, u.2.2.1, u.2.2.2.1, u.2.2.2.2.1, u.2.2.2.2.2.1, u.2.2.2.2.2.2.1, u.2.2.2.2.2.2.2.1, u.2.2.2.2.2.2.2.2.1, u.2.2.2.2.2.2.2.2.2.1, u.2.2.2.2.2.2.2.2.2.2.1, x, u.2.2.2.2.2.2.2.2.2.2.2.2)
def ms_d (u : MU) (x : AI) : MU := (u.1, u.2.1, u.2.2.1, u.2.2.2.1, u.2.2.2.2.1, u.2.2.2.2.2.1, u.2.2.2.2.2.2.1, u.2.2.2.2.2.2.2.1, u.2.2.2.2.2.2.2.2.1, u.2.2.2.2.2.2.2.2.2.1, u.2.2.2.2.2.2.2.2.2.2.1, u.2.2.2.2.2.2.2.2.2.2.2.1, x, u.2.2.2.2.2.2.2.2.2.2.2.2.2)
def ms_n (u : MU) (x : AI) : MU := (u.1, u.2.1, u.2.2.1, u.2.2.2.1, u.2.2.2.2.1, u.2.2.2.2.2.1, u.2.2.2.2.2.2.1, u.2.2.2.2.2.2.2.1, u.2.2.2.2.2.2.2.2.1, u.2.2.2.2.2.2.2.2.2.1, u.2.2.2.2.2.2.2.2.2.2.1, u.2.2.2.2.2.2.2.2.2.2.2.1, u.2.2.2.2.2.2.2.2.2.2.2.2.1, x, u.2.2.2.2.2.2.2.2.2.2.2.2.2.2)
def ms_mp (u : MU) (x : AI) : MU := (u.1, u.2.1, u.2.2.1, u.2.2.2.1, u.2.2.2.2.1, u.2.2.2.2.2.1, u.2.2.2.2.2.2.1, u.2.2.2.2.2.2.2.1, u.2.2.2.2.2.2.2.2.1, u.2.2.2.2.2.2.2.2.2.1, u.2.2.2.2.2.2.2.2.2.2.1, u.2.2.2.2.2.2.2.2.2.2.2.1, u.2.2.2.2.2.2.2.2.2.2.2.2.1, u.2.2.2.2.2.2.2.2.2.2.2.2.2.1, x, u.2.2.2.2.2.2.2.2.2.2.2.2.2.2.2)
def ms_en (u : MU) (x : AI) : MU := (u.1, u.2.1, u.2.2.1, u.2.2.2.1, u.2.2.2.2.1, u.2.2.2.2.2.1, u.2.2.2.2.2.2.1, u.2.2.2.2.2.2.2.1, u.2.2.2.2.2.2.2.2.1, u.2.2.2.2.2.2.2.2.2.1, u.2.2.2.2.2.2.2.2.2.2.1, u.2.2.2.2.2.2.2.2.2.2.2.1, u.2.2.2.2.2.2.2.2.2.2.2.2.1, u.2.2.2.2.2.2.2.2.2.2.2.2.2.1, u.2.2.2.2.2.2.2.2.2.2.2.2.2.2.1, x, u.2.2.2.2.2.2.2.2.2.2.2.2.2.2.2.2)
def ms_ec (u : MU) (x : AI) : MU := (u.1, u.2.1, u.2.2.1, u.2.2.2.1, u.2.2.2.2.1, u.2.2.2.2.2.1, u.2.2.2.2.2.2.1, u.2.2.2.2.2.2.2.1, u.2.2.2.2.2.2.2.2.1, u.2.2.2.2.2.2.2.2.2.1, u.2.2.2.2.2.2.2.2.2.2.1, u.2.2.2.2.2.2.2.2.2.2.2.1, u.2.2.2.2.2.2.2.2.2.2.2.2.1, u.2.2.2.2.2.2.2.2.2.2.2.2.2.1, u.2.2.2.2.2.2.2.2.2.2.2.2.2.2.1, u.2.2.2.2.2.2.2.2.2.2.2.2.2.2.2.1, x)
def wC (K : Nat → ClassId) (g : Nat → Nat) (u : CU) : va_W := [(g 0, .inr (4, [.ref (g 1), .ref (g 2), .ref (g 3), .ref (g 4), .ref (g 5), .int (c_fz u)])), (g 1, .inr (3, [.ref (g 6), .ref (g 7), .int (c_cn u), .int (c_ns u), .long (c_ac u), .long (c_cm u)])), (g 2, .inr (1, [.ref (g 8), .ref (g 9), .ref (g 10), .ref (g 11), .ref (g 12), .ref (g 13), .ref (g 14), .ref (g 15), .ref (g 16)])), (g 3, .inr (0, [.ref (g 17), .ref (g 18)])), (g 4, .inr (2, [.ref (g 25), .ref (g 26), .ref (g 27), .ref (g 28), .int (c_tc u)])), (g 5, .inl (K 2, 4, .inl (c_mp u))), (g 6, .inl (K 0, 60, .inl (c_sp u))), (g 7, .inl (K 1, 60, .inr (.inl (c_sn u)))), (g 8, .inl (K 0, 32, .inl (c_k u))), (g 9, .inl (K 0, 32, .inl (c_v u))), (g 10, .inl (K 0, 32, .inl (c_b u))), (g 11, .inl (K 0, 32, .inl (c_bs u))), (g 12, .inl (K 2, 32, .inl (c_f u))), (g 13, .inl (K 0, 32, .inl (c_d u))), (g 14, .inl (K 0, 32, .inl (c_ds u))), (g 15, .inl (K 0, 32, .inl (c_n u))), (g 16, .inl (K 0, 32, .inl (c_r u))), (g 17, .inl (K 3, 6, .inr (.inr (.inr (.inr (fun i => if i < 6 then some (g (19 + i)) else none)))))), (g 18, .inl (K 0, 6, .inl (c_ct u))), (g 19, .inl (K 0, 32, .inl (c_pl u 0))), (g 20, .inl (K 0, 32, .inl (c_pl u 1))), (g 21, .inl (K 0, 32, .inl (c_pl u 2))), (g 22, .inl (K 0, 32, .inl (c_pl u 3))), (g 23, .inl (K 0, 32, .inl (c_pl u 4))), (g 24, .inl (K 0, 32, .inl (c_pl u 5))), (g 25, .inl (K 0, 512, .inl (c_tk u))), (g 26, .inl (K 0, 512, .inl (c_tv u))), (g 27, .inl (K 0, 512, .inl (c_tb u))), (g 28, .inl (K 0, 512, .inl (c_td u)))]
def wM (K : Nat → ClassId) (g : Nat → Nat) (u : MU) : va_W := [(g 0, .inr (5, [.int (m_thr u), .int (m_ns u), .int (m_fz u), .ref (g 1), .ref (g 2), .ref (g 3), .int (m_cn u), .ref (g 4), .ref (g 5), .ref (g 6), .ref (g 7), .ref (g 8), .ref (g 9), .ref (g 10), .ref (g 11), .ref (g 12), .ref (g 13)])), (g 1, .inl (K 0, 60, .inl (m_st u))), (g 2, .inl (K 0, 60, .inl (m_sta u))), (g 3, .inl (K 1, 60, .inr (.inl (m_sn u)))), (g 4, .inl (K 2, 32, .inl (m_us u))), (g 5, .inl (K 0, 32, .inl (m_k u))), (g 6, .inl (K 0, 32, .inl (m_v u))), (g 7, .inl (K 0, 32, .inl (m_b u))), (g 8, .inl (K 2, 32, .inl (m_fr u))), (g 9, .inl (K 0, 32, .inl (m_d u))), (g 10, .inl (K 0, 32, .inl (m_n u))), (g 11, .inl (K 2, 4, .inl (m_mp u))), (g 12, .inl (K 0, 384, .inl (m_en u))), (g 13, .inl (K 0, 6, .inl (m_ec u)))]
/-- n addresses, apart, of the cells of L -/
def gd (L : Nat → Prop) (g : Nat → Nat) (n : Nat) : Prop := (∀ i j, i < n → j < n → g i = g j → i = j) ∧ ∀ i, i < n → L (g i)
theorem wD {L : Nat → Prop} {g : Nat → Nat} {n sz : Nat} {w : va_W} (hg : gd L g n) (hm : w.map (·.1) = (List.range n).map g) : va_D (fr L sz) w := by
  have at' : ∀ (k : Nat) (q : Nat × va_E), w[k]? = some q → k < n ∧ q.1 = g k := by
    intro k q hk
    have h1 : (w.map (·.1))[k]? = some q.1 := by rw [List.getElem?_map, hk]; rfl
    rw [hm, List.getElem?_map] at h1
    by_cases hkn : k < n
    · rw [List.getElem?_range hkn] at h1
      exact ⟨hkn, (Option.some.inj h1).symm⟩
    · rw [List.getElem?_eq_none (by rw [List.length_range]; omega)] at h1
      cases h1
  refine ⟨fun i j x y hi hj hxy => ?_, fun k q hk => ?_⟩
  · obtain ⟨a1, a2⟩ := at' i x hi
    obtain ⟨b1, b2⟩ := at' j y hj
    exact hg.1 i j a1 b1 (by rw [← a2, ← b2]; exact hxy)
  · obtain ⟨a1, a2⟩ := at' k q hk
    rw [a2]; exact Or.inl (hg.2 k a1)
theorem wC_D {L : Nat → Prop} {g : Nat → Nat} {sz : Nat} {K : Nat → ClassId} {u : CU} (hg : gd L g 29) : va_D (fr L sz) (wC K g u) := wD hg rfl
theorem wM_D {L : Nat → Prop} {g : Nat → Nat} {sz : Nat} {K : Nat → ClassId} {u : MU} (hg : gd L g 14) : va_D (fr L sz) (wM K g u) := wD hg rfl
theorem vin {i : Int32} {j n : Nat} (hj : j < n) (hn : n < 2 ^ 31) (hi : i = nI j) : vp_in i n := by subst hi; exact vp_in_nI hj hn
theorem vcl {i : Int32} {j n : Nat} (hj : j < n) (hn : n < 2 ^ 31) (hi : i = nI j) : i.toNatClampNeg = j := by subst hi; exact nI_clamp (by omega)
section ROWS
variable {p : Program} {l : Launch} {e : Env} {R : Room} {s : State} {m : MethodId} {args : Array Value} {below : List Frame} {meth : Method} {c : Code} {H : Heap} {locs : List Loc} {cells slots : Nat} {Q : State → Prop}
variable {cc : ByteArray} {pc nL index : Nat} {ls : Array Slot} {D : va_G} {K : Nat → ClassId} {L A : Nat → Prop} {Ts : List Cond} {rest : List Value} {own : String} {g : Nat → Nat} {i : Int32} {j : Nat}
theorem gw4_transactions (S : CallFix p m c cc nL s args Ts own) (hin : ∀ w ∈ wsX40, w ∈ Ts) (hE : ev D K A s) {u : CU} (hP : va_P D vwCl (wC K g u) H) (hlink : (Cond.fieldLink own index "RowPages" "transactions" "LRowPages$Transactions;").before args s = true) (hdg : decode cc pc = .ok (.getfield index, 3)) (kk : W p l e R s m args below meth c H locs cells slots Q (F0 m (pc + 3) ls (.ref (g 1) :: rest))) : W p l e R s m args below meth c H locs cells slots Q (F0 m pc ls (.ref (g 0) :: rest)) :=
  va_get (D := D) (ci := 4) (v := .ref (g 1)) (C := RX4) (T := TX4) (N := 6) S.1 S.2.1 S.2.2.2.2 hin S.2.2.2.1 hE.1 hP 0 rfl rfl 0 (by decide) hlink (fun _ h9 => h9) rfl hdg kk
theorem gw4_slots (S : CallFix p m c cc nL s args Ts own) (hin : ∀ w ∈ wsX40, w ∈ Ts) (hE : ev D K A s) {u : CU} (hP : va_P D vwCl (wC K g u) H) (hlink : (Cond.fieldLink own index "RowPages" "slots" "LRowPages$Slots;").before args s = true) (hdg : decode cc pc = .ok (.getfield index, 3)) (kk : W p l e R s m args below meth c H locs cells slots Q (F0 m (pc + 3) ls (.ref (g 2) :: rest))) : W p l e R s m args below meth c H locs cells slots Q (F0 m pc ls (.ref (g 0) :: rest)) :=
  va_get (D := D) (ci := 4) (v := .ref (g 2)) (C := RX4) (T := TX4) (N := 6) S.1 S.2.1 S.2.2.2.2 hin S.2.2.2.1 hE.1 hP 0 rfl rfl 1 (by decide) hlink (fun _ h9 => h9) rfl hdg kk
theorem gw4_index (S : CallFix p m c cc nL s args Ts own) (hin : ∀ w ∈ wsX40, w ∈ Ts) (hE : ev D K A s) {u : CU} (hP : va_P D vwCl (wC K g u) H) (hlink : (Cond.fieldLink own index "RowPages" "index" "LRowPages$Index;").before args s = true) (hdg : decode cc pc = .ok (.getfield index, 3)) (kk : W p l e R s m args below meth c H locs cells slots Q (F0 m (pc + 3) ls (.ref (g 3) :: rest))) : W p l e R s m args below meth c H locs cells slots Q (F0 m pc ls (.ref (g 0) :: rest)) :=
  va_get (D := D) (ci := 4) (v := .ref (g 3)) (C := RX4) (T := TX4) (N := 6) S.1 S.2.1 S.2.2.2.2 hin S.2.2.2.1 hE.1 hP 0 rfl rfl 2 (by decide) hlink (fun _ h9 => h9) rfl hdg kk
theorem gw4_table (S : CallFix p m c cc nL s args Ts own) (hin : ∀ w ∈ wsX40, w ∈ Ts) (hE : ev D K A s) {u : CU} (hP : va_P D vwCl (wC K g u) H) (hlink : (Cond.fieldLink own index "RowPages" "table" "LRowPages$Table;").before args s = true) (hdg : decode cc pc = .ok (.getfield index, 3)) (kk : W p l e R s m args below meth c H locs cells slots Q (F0 m (pc + 3) ls (.ref (g 4) :: rest))) : W p l e R s m args below meth c H locs cells slots Q (F0 m pc ls (.ref (g 0) :: rest)) :=
  va_get (D := D) (ci := 4) (v := .ref (g 4)) (C := RX4) (T := TX4) (N := 6) S.1 S.2.1 S.2.2.2.2 hin S.2.2.2.1 hE.1 hP 0 rfl rfl 3 (by decide) hlink (fun _ h9 => h9) rfl hdg kk
theorem gw4_mapped (S : CallFix p m c cc nL s args Ts own) (hin : ∀ w ∈ wsX40, w ∈ Ts) (hE : ev D K A s) {u : CU} (hP : va_P D vwCl (wC K g u) H) (hlink : (Cond.fieldLink own index "RowPages" "mapped" "[Z").before args s = true) (hdg : decode cc pc = .ok (.getfield index, 3)) (kk : W p l e R s m args below meth c H locs cells slots Q (F0 m (pc + 3) ls (.ref (g 5) :: rest))) : W p l e R s m args below meth c H locs cells slots Q (F0 m pc ls (.ref (g 0) :: rest)) :=
  va_get (D := D) (ci := 4) (v := .ref (g 5)) (C := RX4) (T := TX4) (N := 6) S.1 S.2.1 S.2.2.2.2 hin S.2.2.2.1 hE.1 hP 0 rfl rfl 4 (by decide) hlink (fun _ h9 => h9) rfl hdg kk
theorem gw4_freezingAge (S : CallFix p m c cc nL s args Ts own) (hin : ∀ w ∈ wsX40, w ∈ Ts) (hE : ev D K A s) {u : CU} (hP : va_P D vwCl (wC K g u) H) {f : Int32} (hf : c_fz u = f) (hlink : (Cond.fieldLink own index "RowPages" "freezingAge" "I").before args s = true) (hdg : decode cc pc = .ok (.getfield index, 3)) (kk : W p l e R s m args below meth c H locs cells slots Q (F0 m (pc + 3) ls (.int f :: rest))) : W p l e R s m args below meth c H locs cells slots Q (F0 m pc ls (.ref (g 0) :: rest)) := by
  subst hf
  exact va_get (D := D) (ci := 4) (v := .int (c_fz u)) (C := RX4) (T := TX4) (N := 6) S.1 S.2.1 S.2.2.2.2 hin S.2.2.2.1 hE.1 hP 0 rfl rfl 5 (by decide) hlink (fun _ h9 => h9) rfl hdg kk
theorem pw4_freezingAge (S : CallFix p m c cc nL s args Ts own) (hin : ∀ w ∈ wsX40, w ∈ Ts) (hE : ev D K A s) {u : CU} (hP : va_P D vwCl (wC K g u) H) {sz : Nat} {x : Int32} (hg : gd L g 29) (hS : va_S (fr L sz) s.heap H locs) (hlink : (Cond.fieldLink own index "RowPages" "freezingAge" "I").before args s = true) (hdg : decode cc pc = .ok (.putfield index, 3)) (kk : ∀ (H1 : Heap) (locs1 : List Loc), va_P D vwCl (wC K g (s_fz u x)) H1 → va_S (fr L sz) s.heap H1 locs1 → W p l e R s m args below meth c H1 locs1 cells slots Q (F0 m (pc + 3) ls rest)) : W p l e R s m args below meth c H locs cells slots Q (F0 m pc ls (.int x :: .ref (g 0) :: rest)) :=
  va_put (D := D) (ci := 4) (v := .int x) (ty := .int) (C := RX4) (T := TX4) (N := 6) S.1 S.2.1 S.2.2.2.2 hin tyX4 tyX4_ok nmX4 S.2.2.2.1 hE.1 hP (wC_D hg) hS 0 rfl rfl 5 (by decide) hlink (fun _ h9 => h9) rfl (by decide +kernel) rfl rfl (Nat.le_of_ble_eq_true rfl) hdg (fun H1 locs1 hP1 hD1 hS1 => kk H1 locs1 hP1 hS1)
theorem gw3_stamps (S : CallFix p m c cc nL s args Ts own) (hin : ∀ w ∈ wsX30, w ∈ Ts) (hE : ev D K A s) {u : CU} (hP : va_P D vwCl (wC K g u) H) (hlink : (Cond.fieldLink own index "RowPages$Transactions" "stamps" "[I").before args s = true) (hdg : decode cc pc = .ok (.getfield index, 3)) (kk : W p l e R s m args below meth c H locs cells slots Q (F0 m (pc + 3) ls (.ref (g 6) :: rest))) : W p l e R s m args below meth c H locs cells slots Q (F0 m pc ls (.ref (g 1) :: rest)) :=
  va_get (D := D) (ci := 3) (v := .ref (g 6)) (C := RX3) (T := TX3) (N := 6) S.1 S.2.1 S.2.2.2.2 hin S.2.2.2.1 hE.1 hP 1 rfl rfl 0 (by decide) hlink (fun _ h9 => h9) rfl hdg kk
theorem gw3_snapshots (S : CallFix p m c cc nL s args Ts own) (hin : ∀ w ∈ wsX30, w ∈ Ts) (hE : ev D K A s) {u : CU} (hP : va_P D vwCl (wC K g u) H) (hlink : (Cond.fieldLink own index "RowPages$Transactions" "snapshots" "[J").before args s = true) (hdg : decode cc pc = .ok (.getfield index, 3)) (kk : W p l e R s m args below meth c H locs cells slots Q (F0 m (pc + 3) ls (.ref (g 7) :: rest))) : W p l e R s m args below meth c H locs cells slots Q (F0 m pc ls (.ref (g 1) :: rest)) :=
  va_get (D := D) (ci := 3) (v := .ref (g 7)) (C := RX3) (T := TX3) (N := 6) S.1 S.2.1 S.2.2.2.2 hin S.2.2.2.1 hE.1 hP 1 rfl rfl 1 (by decide) hlink (fun _ h9 => h9) rfl hdg kk
theorem gw3_count (S : CallFix p m c cc nL s args Ts own) (hin : ∀ w ∈ wsX30, w ∈ Ts) (hE : ev D K A s) {u : CU} (hP : va_P D vwCl (wC K g u) H) {f : Int32} (hf : c_cn u = f) (hlink : (Cond.fieldLink own index "RowPages$Transactions" "count" "I").before args s = true) (hdg : decode cc pc = .ok (.getfield index, 3)) (kk : W p l e R s m args below meth c H locs cells slots Q (F0 m (pc + 3) ls (.int f :: rest))) : W p l e R s m args below meth c H locs cells slots Q (F0 m pc ls (.ref (g 1) :: rest)) := by
  subst hf
  exact va_get (D := D) (ci := 3) (v := .int (c_cn u)) (C := RX3) (T := TX3) (N := 6) S.1 S.2.1 S.2.2.2.2 hin S.2.2.2.1 hE.1 hP 1 rfl rfl 2 (by decide) hlink (fun _ h9 => h9) rfl hdg kk
theorem pw3_count (S : CallFix p m c cc nL s args Ts own) (hin : ∀ w ∈ wsX30, w ∈ Ts) (hE : ev D K A s) {u : CU} (hP : va_P D vwCl (wC K g u) H) {sz : Nat} {x : Int32} (hg : gd L g 29) (hS : va_S (fr L sz) s.heap H locs) (hlink : (Cond.fieldLink own index "RowPages$Transactions" "count" "I").before args s = true) (hdg : decode cc pc = .ok (.putfield index, 3)) (kk : ∀ (H1 : Heap) (locs1 : List Loc), va_P D vwCl (wC K g (s_cn u x)) H1 → va_S (fr L sz) s.heap H1 locs1 → W p l e R s m args below meth c H1 locs1 cells slots Q (F0 m (pc + 3) ls rest)) : W p l e R s m args below meth c H locs cells slots Q (F0 m pc ls (.int x :: .ref (g 1) :: rest)) :=
  va_put (D := D) (ci := 3) (v := .int x) (ty := .int) (C := RX3) (T := TX3) (N := 6) S.1 S.2.1 S.2.2.2.2 hin tyX3 tyX3_ok nmX3 S.2.2.2.1 hE.1 hP (wC_D hg) hS 1 rfl rfl 2 (by decide) hlink (fun _ h9 => h9) rfl (by decide +kernel) rfl rfl (Nat.le_of_ble_eq_true rfl) hdg (fun H1 locs1 hP1 hD1 hS1 => kk H1 locs1 hP1 hS1)
theorem gw3_nextStamp (S : CallFix p m c cc nL s args Ts own) (hin : ∀ w ∈ wsX30, w ∈ Ts) (hE : ev D K A s) {u : CU} (hP : va_P D vwCl (wC K g u) H) {f : Int32} (hf : c_ns u = f) (hlink : (Cond.fieldLink own index "RowPages$Transactions" "nextStamp" "I").before args s = true) (hdg : decode cc pc = .ok (.getfield index, 3)) (kk : W p l e R s m args below meth c H locs cells slots Q (F0 m (pc + 3) ls (.int f :: rest))) : W p l e R s m args below meth c H locs cells slots Q (F0 m pc ls (.ref (g 1) :: rest)) := by
  subst hf
  exact va_get (D := D) (ci := 3) (v := .int (c_ns u)) (C := RX3) (T := TX3) (N := 6) S.1 S.2.1 S.2.2.2.2 hin S.2.2.2.1 hE.1 hP 1 rfl rfl 3 (by decide) hlink (fun _ h9 => h9) rfl hdg kk
theorem pw3_nextStamp (S : CallFix p m c cc nL s args Ts own) (hin : ∀ w ∈ wsX30, w ∈ Ts) (hE : ev D K A s) {u : CU} (hP : va_P D vwCl (wC K g u) H) {sz : Nat} {x : Int32} (hg : gd L g 29) (hS : va_S (fr L sz) s.heap H locs) (hlink : (Cond.fieldLink own index "RowPages$Transactions" "nextStamp" "I").before args s = true) (hdg : decode cc pc = .ok (.putfield index, 3)) (kk : ∀ (H1 : Heap) (locs1 : List Loc), va_P D vwCl (wC K g (s_ns u x)) H1 → va_S (fr L sz) s.heap H1 locs1 → W p l e R s m args below meth c H1 locs1 cells slots Q (F0 m (pc + 3) ls rest)) : W p l e R s m args below meth c H locs cells slots Q (F0 m pc ls (.int x :: .ref (g 1) :: rest)) :=
  va_put (D := D) (ci := 3) (v := .int x) (ty := .int) (C := RX3) (T := TX3) (N := 6) S.1 S.2.1 S.2.2.2.2 hin tyX3 tyX3_ok nmX3 S.2.2.2.1 hE.1 hP (wC_D hg) hS 1 rfl rfl 3 (by decide) hlink (fun _ h9 => h9) rfl (by decide +kernel) rfl rfl (Nat.le_of_ble_eq_true rfl) hdg (fun H1 locs1 hP1 hD1 hS1 => kk H1 locs1 hP1 hS1)
theorem gw3_active (S : CallFix p m c cc nL s args Ts own) (hin : ∀ w ∈ wsX30, w ∈ Ts) (hE : ev D K A s) {u : CU} (hP : va_P D vwCl (wC K g u) H) {f : Int64} (hf : c_ac u = f) (hlink : (Cond.fieldLink own index "RowPages$Transactions" "active" "J").before args s = true) (hdg : decode cc pc = .ok (.getfield index, 3)) (kk : W p l e R s m args below meth c H locs cells slots Q (F0 m (pc + 3) ls (.long f :: rest))) : W p l e R s m args below meth c H locs cells slots Q (F0 m pc ls (.ref (g 1) :: rest)) := by
  subst hf
  exact va_get (D := D) (ci := 3) (v := .long (c_ac u)) (C := RX3) (T := TX3) (N := 6) S.1 S.2.1 S.2.2.2.2 hin S.2.2.2.1 hE.1 hP 1 rfl rfl 4 (by decide) hlink (fun _ h9 => h9) rfl hdg kk
theorem pw3_active (S : CallFix p m c cc nL s args Ts own) (hin : ∀ w ∈ wsX30, w ∈ Ts) (hE : ev D K A s) {u : CU} (hP : va_P D vwCl (wC K g u) H) {sz : Nat} {x : Int64} (hg : gd L g 29) (hS : va_S (fr L sz) s.heap H locs) (hlink : (Cond.fieldLink own index "RowPages$Transactions" "active" "J").before args s = true) (hdg : decode cc pc = .ok (.putfield index, 3)) (kk : ∀ (H1 : Heap) (locs1 : List Loc), va_P D vwCl (wC K g (s_ac u x)) H1 → va_S (fr L sz) s.heap H1 locs1 → W p l e R s m args below meth c H1 locs1 cells slots Q (F0 m (pc + 3) ls rest)) : W p l e R s m args below meth c H locs cells slots Q (F0 m pc ls (.long x :: .ref (g 1) :: rest)) :=
  va_put (D := D) (ci := 3) (v := .long x) (ty := .long) (C := RX3) (T := TX3) (N := 6) S.1 S.2.1 S.2.2.2.2 hin tyX3 tyX3_ok nmX3 S.2.2.2.1 hE.1 hP (wC_D hg) hS 1 rfl rfl 4 (by decide) hlink (fun _ h9 => h9) rfl (by decide +kernel) rfl rfl (Nat.le_of_ble_eq_true rfl) hdg (fun H1 locs1 hP1 hD1 hS1 => kk H1 locs1 hP1 hS1)
theorem gw3_committed (S : CallFix p m c cc nL s args Ts own) (hin : ∀ w ∈ wsX30, w ∈ Ts) (hE : ev D K A s) {u : CU} (hP : va_P D vwCl (wC K g u) H) {f : Int64} (hf : c_cm u = f) (hlink : (Cond.fieldLink own index "RowPages$Transactions" "committed" "J").before args s = true) (hdg : decode cc pc = .ok (.getfield index, 3)) (kk : W p l e R s m args below meth c H locs cells slots Q (F0 m (pc + 3) ls (.long f :: rest))) : W p l e R s m args below meth c H locs cells slots Q (F0 m pc ls (.ref (g 1) :: rest)) := by
  subst hf
  exact va_get (D := D) (ci := 3) (v := .long (c_cm u)) (C := RX3) (T := TX3) (N := 6) S.1 S.2.1 S.2.2.2.2 hin S.2.2.2.1 hE.1 hP 1 rfl rfl 5 (by decide) hlink (fun _ h9 => h9) rfl hdg kk
theorem pw3_committed (S : CallFix p m c cc nL s args Ts own) (hin : ∀ w ∈ wsX30, w ∈ Ts) (hE : ev D K A s) {u : CU} (hP : va_P D vwCl (wC K g u) H) {sz : Nat} {x : Int64} (hg : gd L g 29) (hS : va_S (fr L sz) s.heap H locs) (hlink : (Cond.fieldLink own index "RowPages$Transactions" "committed" "J").before args s = true) (hdg : decode cc pc = .ok (.putfield index, 3)) (kk : ∀ (H1 : Heap) (locs1 : List Loc), va_P D vwCl (wC K g (s_cm u x)) H1 → va_S (fr L sz) s.heap H1 locs1 → W p l e R s m args below meth c H1 locs1 cells slots Q (F0 m (pc + 3) ls rest)) : W p l e R s m args below meth c H locs cells slots Q (F0 m pc ls (.long x :: .ref (g 1) :: rest)) :=
  va_put (D := D) (ci := 3) (v := .long x) (ty := .long) (C := RX3) (T := TX3) (N := 6) S.1 S.2.1 S.2.2.2.2 hin tyX3 tyX3_ok nmX3 S.2.2.2.1 hE.1 hP (wC_D hg) hS 1 rfl rfl 5 (by decide) hlink (fun _ h9 => h9) rfl (by decide +kernel) rfl rfl (Nat.le_of_ble_eq_true rfl) hdg (fun H1 locs1 hP1 hD1 hS1 => kk H1 locs1 hP1 hS1)
theorem gw1_keys (S : CallFix p m c cc nL s args Ts own) (hin : ∀ w ∈ wsX10, w ∈ Ts) (hE : ev D K A s) {u : CU} (hP : va_P D vwCl (wC K g u) H) (hlink : (Cond.fieldLink own index "RowPages$Slots" "keys" "[I").before args s = true) (hdg : decode cc pc = .ok (.getfield index, 3)) (kk : W p l e R s m args below meth c H locs cells slots Q (F0 m (pc + 3) ls (.ref (g 8) :: rest))) : W p l e R s m args below meth c H locs cells slots Q (F0 m pc ls (.ref (g 2) :: rest)) :=
  va_get (D := D) (ci := 1) (v := .ref (g 8)) (C := RX1) (T := TX1) (N := 9) S.1 S.2.1 S.2.2.2.2 hin S.2.2.2.1 hE.1 hP 2 rfl rfl 0 (by decide) hlink (fun _ h9 => h9) rfl hdg kk
theorem gw1_values (S : CallFix p m c cc nL s args Ts own) (hin : ∀ w ∈ wsX10, w ∈ Ts) (hE : ev D K A s) {u : CU} (hP : va_P D vwCl (wC K g u) H) (hlink : (Cond.fieldLink own index "RowPages$Slots" "values" "[I").before args s = true) (hdg : decode cc pc = .ok (.getfield index, 3)) (kk : W p l e R s m args below meth c H locs cells slots Q (F0 m (pc + 3) ls (.ref (g 9) :: rest))) : W p l e R s m args below meth c H locs cells slots Q (F0 m pc ls (.ref (g 2) :: rest)) :=
  va_get (D := D) (ci := 1) (v := .ref (g 9)) (C := RX1) (T := TX1) (N := 9) S.1 S.2.1 S.2.2.2.2 hin S.2.2.2.1 hE.1 hP 2 rfl rfl 1 (by decide) hlink (fun _ h9 => h9) rfl hdg kk
theorem gw1_births (S : CallFix p m c cc nL s args Ts own) (hin : ∀ w ∈ wsX10, w ∈ Ts) (hE : ev D K A s) {u : CU} (hP : va_P D vwCl (wC K g u) H) (hlink : (Cond.fieldLink own index "RowPages$Slots" "births" "[I").before args s = true) (hdg : decode cc pc = .ok (.getfield index, 3)) (kk : W p l e R s m args below meth c H locs cells slots Q (F0 m (pc + 3) ls (.ref (g 10) :: rest))) : W p l e R s m args below meth c H locs cells slots Q (F0 m pc ls (.ref (g 2) :: rest)) :=
  va_get (D := D) (ci := 1) (v := .ref (g 10)) (C := RX1) (T := TX1) (N := 9) S.1 S.2.1 S.2.2.2.2 hin S.2.2.2.1 hE.1 hP 2 rfl rfl 2 (by decide) hlink (fun _ h9 => h9) rfl hdg kk
theorem gw1_birthStamps (S : CallFix p m c cc nL s args Ts own) (hin : ∀ w ∈ wsX10, w ∈ Ts) (hE : ev D K A s) {u : CU} (hP : va_P D vwCl (wC K g u) H) (hlink : (Cond.fieldLink own index "RowPages$Slots" "birthStamps" "[I").before args s = true) (hdg : decode cc pc = .ok (.getfield index, 3)) (kk : W p l e R s m args below meth c H locs cells slots Q (F0 m (pc + 3) ls (.ref (g 11) :: rest))) : W p l e R s m args below meth c H locs cells slots Q (F0 m pc ls (.ref (g 2) :: rest)) :=
  va_get (D := D) (ci := 1) (v := .ref (g 11)) (C := RX1) (T := TX1) (N := 9) S.1 S.2.1 S.2.2.2.2 hin S.2.2.2.1 hE.1 hP 2 rfl rfl 3 (by decide) hlink (fun _ h9 => h9) rfl hdg kk
theorem gw1_frozen (S : CallFix p m c cc nL s args Ts own) (hin : ∀ w ∈ wsX10, w ∈ Ts) (hE : ev D K A s) {u : CU} (hP : va_P D vwCl (wC K g u) H) (hlink : (Cond.fieldLink own index "RowPages$Slots" "frozen" "[Z").before args s = true) (hdg : decode cc pc = .ok (.getfield index, 3)) (kk : W p l e R s m args below meth c H locs cells slots Q (F0 m (pc + 3) ls (.ref (g 12) :: rest))) : W p l e R s m args below meth c H locs cells slots Q (F0 m pc ls (.ref (g 2) :: rest)) :=
  va_get (D := D) (ci := 1) (v := .ref (g 12)) (C := RX1) (T := TX1) (N := 9) S.1 S.2.1 S.2.2.2.2 hin S.2.2.2.1 hE.1 hP 2 rfl rfl 4 (by decide) hlink (fun _ h9 => h9) rfl hdg kk
theorem gw1_deaths (S : CallFix p m c cc nL s args Ts own) (hin : ∀ w ∈ wsX10, w ∈ Ts) (hE : ev D K A s) {u : CU} (hP : va_P D vwCl (wC K g u) H) (hlink : (Cond.fieldLink own index "RowPages$Slots" "deaths" "[I").before args s = true) (hdg : decode cc pc = .ok (.getfield index, 3)) (kk : W p l e R s m args below meth c H locs cells slots Q (F0 m (pc + 3) ls (.ref (g 13) :: rest))) : W p l e R s m args below meth c H locs cells slots Q (F0 m pc ls (.ref (g 2) :: rest)) :=
  va_get (D := D) (ci := 1) (v := .ref (g 13)) (C := RX1) (T := TX1) (N := 9) S.1 S.2.1 S.2.2.2.2 hin S.2.2.2.1 hE.1 hP 2 rfl rfl 5 (by decide) hlink (fun _ h9 => h9) rfl hdg kk
theorem gw1_deathStamps (S : CallFix p m c cc nL s args Ts own) (hin : ∀ w ∈ wsX10, w ∈ Ts) (hE : ev D K A s) {u : CU} (hP : va_P D vwCl (wC K g u) H) (hlink : (Cond.fieldLink own index "RowPages$Slots" "deathStamps" "[I").before args s = true) (hdg : decode cc pc = .ok (.getfield index, 3)) (kk : W p l e R s m args below meth c H locs cells slots Q (F0 m (pc + 3) ls (.ref (g 14) :: rest))) : W p l e R s m args below meth c H locs cells slots Q (F0 m pc ls (.ref (g 2) :: rest)) :=
  va_get (D := D) (ci := 1) (v := .ref (g 14)) (C := RX1) (T := TX1) (N := 9) S.1 S.2.1 S.2.2.2.2 hin S.2.2.2.1 hE.1 hP 2 rfl rfl 6 (by decide) hlink (fun _ h9 => h9) rfl hdg kk
theorem gw1_nexts (S : CallFix p m c cc nL s args Ts own) (hin : ∀ w ∈ wsX10, w ∈ Ts) (hE : ev D K A s) {u : CU} (hP : va_P D vwCl (wC K g u) H) (hlink : (Cond.fieldLink own index "RowPages$Slots" "nexts" "[I").before args s = true) (hdg : decode cc pc = .ok (.getfield index, 3)) (kk : W p l e R s m args below meth c H locs cells slots Q (F0 m (pc + 3) ls (.ref (g 15) :: rest))) : W p l e R s m args below meth c H locs cells slots Q (F0 m pc ls (.ref (g 2) :: rest)) :=
  va_get (D := D) (ci := 1) (v := .ref (g 15)) (C := RX1) (T := TX1) (N := 9) S.1 S.2.1 S.2.2.2.2 hin S.2.2.2.1 hE.1 hP 2 rfl rfl 7 (by decide) hlink (fun _ h9 => h9) rfl hdg kk
theorem gw1_rows (S : CallFix p m c cc nL s args Ts own) (hin : ∀ w ∈ wsX10, w ∈ Ts) (hE : ev D K A s) {u : CU} (hP : va_P D vwCl (wC K g u) H) (hlink : (Cond.fieldLink own index "RowPages$Slots" "rows" "[I").before args s = true) (hdg : decode cc pc = .ok (.getfield index, 3)) (kk : W p l e R s m args below meth c H locs cells slots Q (F0 m (pc + 3) ls (.ref (g 16) :: rest))) : W p l e R s m args below meth c H locs cells slots Q (F0 m pc ls (.ref (g 2) :: rest)) :=
  va_get (D := D) (ci := 1) (v := .ref (g 16)) (C := RX1) (T := TX1) (N := 9) S.1 S.2.1 S.2.2.2.2 hin S.2.2.2.1 hE.1 hP 2 rfl rfl 8 (by decide) hlink (fun _ h9 => h9) rfl hdg kk
theorem gw0_places (S : CallFix p m c cc nL s args Ts own) (hin : ∀ w ∈ wsX00, w ∈ Ts) (hE : ev D K A s) {u : CU} (hP : va_P D vwCl (wC K g u) H) (hlink : (Cond.fieldLink own index "RowPages$Index" "places" "[[I").before args s = true) (hdg : decode cc pc = .ok (.getfield index, 3)) (kk : W p l e R s m args below meth c H locs cells slots Q (F0 m (pc + 3) ls (.ref (g 17) :: rest))) : W p l e R s m args below meth c H locs cells slots Q (F0 m pc ls (.ref (g 3) :: rest)) :=
  va_get (D := D) (ci := 0) (v := .ref (g 17)) (C := RX0) (T := TX0) (N := 2) S.1 S.2.1 S.2.2.2.2 hin S.2.2.2.1 hE.1 hP 3 rfl rfl 0 (by decide) hlink (fun _ h9 => h9) rfl hdg kk
theorem gw0_counts (S : CallFix p m c cc nL s args Ts own) (hin : ∀ w ∈ wsX00, w ∈ Ts) (hE : ev D K A s) {u : CU} (hP : va_P D vwCl (wC K g u) H) (hlink : (Cond.fieldLink own index "RowPages$Index" "counts" "[I").before args s = true) (hdg : decode cc pc = .ok (.getfield index, 3)) (kk : W p l e R s m args below meth c H locs cells slots Q (F0 m (pc + 3) ls (.ref (g 18) :: rest))) : W p l e R s m args below meth c H locs cells slots Q (F0 m pc ls (.ref (g 3) :: rest)) :=
  va_get (D := D) (ci := 0) (v := .ref (g 18)) (C := RX0) (T := TX0) (N := 2) S.1 S.2.1 S.2.2.2.2 hin S.2.2.2.1 hE.1 hP 3 rfl rfl 1 (by decide) hlink (fun _ h9 => h9) rfl hdg kk
theorem gw2_keys (S : CallFix p m c cc nL s args Ts own) (hin : ∀ w ∈ wsX20, w ∈ Ts) (hE : ev D K A s) {u : CU} (hP : va_P D vwCl (wC K g u) H) (hlink : (Cond.fieldLink own index "RowPages$Table" "keys" "[I").before args s = true) (hdg : decode cc pc = .ok (.getfield index, 3)) (kk : W p l e R s m args below meth c H locs cells slots Q (F0 m (pc + 3) ls (.ref (g 25) :: rest))) : W p l e R s m args below meth c H locs cells slots Q (F0 m pc ls (.ref (g 4) :: rest)) :=
  va_get (D := D) (ci := 2) (v := .ref (g 25)) (C := RX2) (T := TX2) (N := 5) S.1 S.2.1 S.2.2.2.2 hin S.2.2.2.1 hE.1 hP 4 rfl rfl 0 (by decide) hlink (fun _ h9 => h9) rfl hdg kk
theorem gw2_values (S : CallFix p m c cc nL s args Ts own) (hin : ∀ w ∈ wsX20, w ∈ Ts) (hE : ev D K A s) {u : CU} (hP : va_P D vwCl (wC K g u) H) (hlink : (Cond.fieldLink own index "RowPages$Table" "values" "[I").before args s = true) (hdg : decode cc pc = .ok (.getfield index, 3)) (kk : W p l e R s m args below meth c H locs cells slots Q (F0 m (pc + 3) ls (.ref (g 26) :: rest))) : W p l e R s m args below meth c H locs cells slots Q (F0 m pc ls (.ref (g 4) :: rest)) :=
  va_get (D := D) (ci := 2) (v := .ref (g 26)) (C := RX2) (T := TX2) (N := 5) S.1 S.2.1 S.2.2.2.2 hin S.2.2.2.1 hE.1 hP 4 rfl rfl 1 (by decide) hlink (fun _ h9 => h9) rfl hdg kk
theorem gw2_births (S : CallFix p m c cc nL s args Ts own) (hin : ∀ w ∈ wsX20, w ∈ Ts) (hE : ev D K A s) {u : CU} (hP : va_P D vwCl (wC K g u) H) (hlink : (Cond.fieldLink own index "RowPages$Table" "births" "[I").before args s = true) (hdg : decode cc pc = .ok (.getfield index, 3)) (kk : W p l e R s m args below meth c H locs cells slots Q (F0 m (pc + 3) ls (.ref (g 27) :: rest))) : W p l e R s m args below meth c H locs cells slots Q (F0 m pc ls (.ref (g 4) :: rest)) :=
  va_get (D := D) (ci := 2) (v := .ref (g 27)) (C := RX2) (T := TX2) (N := 5) S.1 S.2.1 S.2.2.2.2 hin S.2.2.2.1 hE.1 hP 4 rfl rfl 2 (by decide) hlink (fun _ h9 => h9) rfl hdg kk
theorem gw2_deaths (S : CallFix p m c cc nL s args Ts own) (hin : ∀ w ∈ wsX20, w ∈ Ts) (hE : ev D K A s) {u : CU} (hP : va_P D vwCl (wC K g u) H) (hlink : (Cond.fieldLink own index "RowPages$Table" "deaths" "[I").before args s = true) (hdg : decode cc pc = .ok (.getfield index, 3)) (kk : W p l e R s m args below meth c H locs cells slots Q (F0 m (pc + 3) ls (.ref (g 28) :: rest))) : W p l e R s m args below meth c H locs cells slots Q (F0 m pc ls (.ref (g 4) :: rest)) :=
  va_get (D := D) (ci := 2) (v := .ref (g 28)) (C := RX2) (T := TX2) (N := 5) S.1 S.2.1 S.2.2.2.2 hin S.2.2.2.1 hE.1 hP 4 rfl rfl 3 (by decide) hlink (fun _ h9 => h9) rfl hdg kk
theorem gw2_count (S : CallFix p m c cc nL s args Ts own) (hin : ∀ w ∈ wsX20, w ∈ Ts) (hE : ev D K A s) {u : CU} (hP : va_P D vwCl (wC K g u) H) {f : Int32} (hf : c_tc u = f) (hlink : (Cond.fieldLink own index "RowPages$Table" "count" "I").before args s = true) (hdg : decode cc pc = .ok (.getfield index, 3)) (kk : W p l e R s m args below meth c H locs cells slots Q (F0 m (pc + 3) ls (.int f :: rest))) : W p l e R s m args below meth c H locs cells slots Q (F0 m pc ls (.ref (g 4) :: rest)) := by
  subst hf
  exact va_get (D := D) (ci := 2) (v := .int (c_tc u)) (C := RX2) (T := TX2) (N := 5) S.1 S.2.1 S.2.2.2.2 hin S.2.2.2.1 hE.1 hP 4 rfl rfl 4 (by decide) hlink (fun _ h9 => h9) rfl hdg kk
theorem pw2_count (S : CallFix p m c cc nL s args Ts own) (hin : ∀ w ∈ wsX20, w ∈ Ts) (hE : ev D K A s) {u : CU} (hP : va_P D vwCl (wC K g u) H) {sz : Nat} {x : Int32} (hg : gd L g 29) (hS : va_S (fr L sz) s.heap H locs) (hlink : (Cond.fieldLink own index "RowPages$Table" "count" "I").before args s = true) (hdg : decode cc pc = .ok (.putfield index, 3)) (kk : ∀ (H1 : Heap) (locs1 : List Loc), va_P D vwCl (wC K g (s_tc u x)) H1 → va_S (fr L sz) s.heap H1 locs1 → W p l e R s m args below meth c H1 locs1 cells slots Q (F0 m (pc + 3) ls rest)) : W p l e R s m args below meth c H locs cells slots Q (F0 m pc ls (.int x :: .ref (g 4) :: rest)) :=
  va_put (D := D) (ci := 2) (v := .int x) (ty := .int) (C := RX2) (T := TX2) (N := 5) S.1 S.2.1 S.2.2.2.2 hin tyX2 tyX2_ok nmX2 S.2.2.2.1 hE.1 hP (wC_D hg) hS 4 rfl rfl 4 (by decide) hlink (fun _ h9 => h9) rfl (by decide +kernel) rfl rfl (Nat.le_of_ble_eq_true rfl) hdg (fun H1 locs1 hP1 hD1 hS1 => kk H1 locs1 hP1 hS1)
theorem gw5_thrown (S : CallFix p m c cc nL s args Ts own) (hin : ∀ w ∈ wsX50, w ∈ Ts) (hE : ev D K A s) {u : MU} (hP : va_P D vwCl (wM K g u) H) {f : Int32} (hf : m_thr u = f) (hlink : (Cond.fieldLink own index "RowPagesModel" "thrown" "I").before args s = true) (hdg : decode cc pc = .ok (.getfield index, 3)) (kk : W p l e R s m args below meth c H locs cells slots Q (F0 m (pc + 3) ls (.int f :: rest))) : W p l e R s m args below meth c H locs cells slots Q (F0 m pc ls (.ref (g 0) :: rest)) := by
  subst hf
  exact va_get (D := D) (ci := 5) (v := .int (m_thr u)) (C := RX5) (T := TX5) (N := 17) S.1 S.2.1 S.2.2.2.2 hin S.2.2.2.1 hE.1 hP 0 rfl rfl 0 (by decide) hlink (fun _ h9 => h9) rfl hdg kk
theorem pw5_thrown (S : CallFix p m c cc nL s args Ts own) (hin : ∀ w ∈ wsX50, w ∈ Ts) (hE : ev D K A s) {u : MU} (hP : va_P D vwCl (wM K g u) H) {sz : Nat} {x : Int32} (hg : gd L g 14) (hS : va_S (fr L sz) s.heap H locs) (hlink : (Cond.fieldLink own index "RowPagesModel" "thrown" "I").before args s = true) (hdg : decode cc pc = .ok (.putfield index, 3)) (kk : ∀ (H1 : Heap) (locs1 : List Loc), va_P D vwCl (wM K g (ms_thr u x)) H1 → va_S (fr L sz) s.heap H1 locs1 → W p l e R s m args below meth c H1 locs1 cells slots Q (F0 m (pc + 3) ls rest)) : W p l e R s m args below meth c H locs cells slots Q (F0 m pc ls (.int x :: .ref (g 0) :: rest)) :=
  va_put (D := D) (ci := 5) (v := .int x) (ty := .int) (C := RX5) (T := TX5) (N := 17) S.1 S.2.1 S.2.2.2.2 hin tyX5 tyX5_ok nmX5 S.2.2.2.1 hE.1 hP (wM_D hg) hS 0 rfl rfl 0 (by decide) hlink (fun _ h9 => h9) rfl (by decide +kernel) rfl rfl (Nat.le_of_ble_eq_true rfl) hdg (fun H1 locs1 hP1 hD1 hS1 => kk H1 locs1 hP1 hS1)
theorem gw5_nextStamp (S : CallFix p m c cc nL s args Ts own) (hin : ∀ w ∈ wsX50, w ∈ Ts) (hE : ev D K A s) {u : MU} (hP : va_P D vwCl (wM K g u) H) {f : Int32} (hf : m_ns u = f) (hlink : (Cond.fieldLink own index "RowPagesModel" "nextStamp" "I").before args s = true) (hdg : decode cc pc = .ok (.getfield index, 3)) (kk : W p l e R s m args below meth c H locs cells slots Q (F0 m (pc + 3) ls (.int f :: rest))) : W p l e R s m args below meth c H locs cells slots Q (F0 m pc ls (.ref (g 0) :: rest)) := by
  subst hf
  exact va_get (D := D) (ci := 5) (v := .int (m_ns u)) (C := RX5) (T := TX5) (N := 17) S.1 S.2.1 S.2.2.2.2 hin S.2.2.2.1 hE.1 hP 0 rfl rfl 1 (by decide) hlink (fun _ h9 => h9) rfl hdg kk
theorem pw5_nextStamp (S : CallFix p m c cc nL s args Ts own) (hin : ∀ w ∈ wsX50, w ∈ Ts) (hE : ev D K A s) {u : MU} (hP : va_P D vwCl (wM K g u) H) {sz : Nat} {x : Int32} (hg : gd L g 14) (hS : va_S (fr L sz) s.heap H locs) (hlink : (Cond.fieldLink own index "RowPagesModel" "nextStamp" "I").before args s = true) (hdg : decode cc pc = .ok (.putfield index, 3)) (kk : ∀ (H1 : Heap) (locs1 : List Loc), va_P D vwCl (wM K g (ms_ns u x)) H1 → va_S (fr L sz) s.heap H1 locs1 → W p l e R s m args below meth c H1 locs1 cells slots Q (F0 m (pc + 3) ls rest)) : W p l e R s m args below meth c H locs cells slots Q (F0 m pc ls (.int x :: .ref (g 0) :: rest)) :=
  va_put (D := D) (ci := 5) (v := .int x) (ty := .int) (C := RX5) (T := TX5) (N := 17) S.1 S.2.1 S.2.2.2.2 hin tyX5 tyX5_ok nmX5 S.2.2.2.1 hE.1 hP (wM_D hg) hS 0 rfl rfl 1 (by decide) hlink (fun _ h9 => h9) rfl (by decide +kernel) rfl rfl (Nat.le_of_ble_eq_true rfl) hdg (fun H1 locs1 hP1 hD1 hS1 => kk H1 locs1 hP1 hS1)
theorem gw5_freezing (S : CallFix p m c cc nL s args Ts own) (hin : ∀ w ∈ wsX50, w ∈ Ts) (hE : ev D K A s) {u : MU} (hP : va_P D vwCl (wM K g u) H) {f : Int32} (hf : m_fz u = f) (hlink : (Cond.fieldLink own index "RowPagesModel" "freezing" "I").before args s = true) (hdg : decode cc pc = .ok (.getfield index, 3)) (kk : W p l e R s m args below meth c H locs cells slots Q (F0 m (pc + 3) ls (.int f :: rest))) : W p l e R s m args below meth c H locs cells slots Q (F0 m pc ls (.ref (g 0) :: rest)) := by
  subst hf
  exact va_get (D := D) (ci := 5) (v := .int (m_fz u)) (C := RX5) (T := TX5) (N := 17) S.1 S.2.1 S.2.2.2.2 hin S.2.2.2.1 hE.1 hP 0 rfl rfl 2 (by decide) hlink (fun _ h9 => h9) rfl hdg kk
theorem pw5_freezing (S : CallFix p m c cc nL s args Ts own) (hin : ∀ w ∈ wsX50, w ∈ Ts) (hE : ev D K A s) {u : MU} (hP : va_P D vwCl (wM K g u) H) {sz : Nat} {x : Int32} (hg : gd L g 14) (hS : va_S (fr L sz) s.heap H locs) (hlink : (Cond.fieldLink own index "RowPagesModel" "freezing" "I").before args s = true) (hdg : decode cc pc = .ok (.putfield index, 3)) (kk : ∀ (H1 : Heap) (locs1 : List Loc), va_P D vwCl (wM K g (ms_fz u x)) H1 → va_S (fr L sz) s.heap H1 locs1 → W p l e R s m args below meth c H1 locs1 cells slots Q (F0 m (pc + 3) ls rest)) : W p l e R s m args below meth c H locs cells slots Q (F0 m pc ls (.int x :: .ref (g 0) :: rest)) :=
  va_put (D := D) (ci := 5) (v := .int x) (ty := .int) (C := RX5) (T := TX5) (N := 17) S.1 S.2.1 S.2.2.2.2 hin tyX5 tyX5_ok nmX5 S.2.2.2.1 hE.1 hP (wM_D hg) hS 0 rfl rfl 2 (by decide) hlink (fun _ h9 => h9) rfl (by decide +kernel) rfl rfl (Nat.le_of_ble_eq_true rfl) hdg (fun H1 locs1 hP1 hD1 hS1 => kk H1 locs1 hP1 hS1)
theorem gw5_stamp (S : CallFix p m c cc nL s args Ts own) (hin : ∀ w ∈ wsX50, w ∈ Ts) (hE : ev D K A s) {u : MU} (hP : va_P D vwCl (wM K g u) H) (hlink : (Cond.fieldLink own index "RowPagesModel" "stamp" "[I").before args s = true) (hdg : decode cc pc = .ok (.getfield index, 3)) (kk : W p l e R s m args below meth c H locs cells slots Q (F0 m (pc + 3) ls (.ref (g 1) :: rest))) : W p l e R s m args below meth c H locs cells slots Q (F0 m pc ls (.ref (g 0) :: rest)) :=
  va_get (D := D) (ci := 5) (v := .ref (g 1)) (C := RX5) (T := TX5) (N := 17) S.1 S.2.1 S.2.2.2.2 hin S.2.2.2.1 hE.1 hP 0 rfl rfl 3 (by decide) hlink (fun _ h9 => h9) rfl hdg kk
theorem gw5_state (S : CallFix p m c cc nL s args Ts own) (hin : ∀ w ∈ wsX50, w ∈ Ts) (hE : ev D K A s) {u : MU} (hP : va_P D vwCl (wM K g u) H) (hlink : (Cond.fieldLink own index "RowPagesModel" "state" "[I").before args s = true) (hdg : decode cc pc = .ok (.getfield index, 3)) (kk : W p l e R s m args below meth c H locs cells slots Q (F0 m (pc + 3) ls (.ref (g 2) :: rest))) : W p l e R s m args below meth c H locs cells slots Q (F0 m pc ls (.ref (g 0) :: rest)) :=
  va_get (D := D) (ci := 5) (v := .ref (g 2)) (C := RX5) (T := TX5) (N := 17) S.1 S.2.1 S.2.2.2.2 hin S.2.2.2.1 hE.1 hP 0 rfl rfl 4 (by decide) hlink (fun _ h9 => h9) rfl hdg kk
theorem gw5_snapshot (S : CallFix p m c cc nL s args Ts own) (hin : ∀ w ∈ wsX50, w ∈ Ts) (hE : ev D K A s) {u : MU} (hP : va_P D vwCl (wM K g u) H) (hlink : (Cond.fieldLink own index "RowPagesModel" "snapshot" "[J").before args s = true) (hdg : decode cc pc = .ok (.getfield index, 3)) (kk : W p l e R s m args below meth c H locs cells slots Q (F0 m (pc + 3) ls (.ref (g 3) :: rest))) : W p l e R s m args below meth c H locs cells slots Q (F0 m pc ls (.ref (g 0) :: rest)) :=
  va_get (D := D) (ci := 5) (v := .ref (g 3)) (C := RX5) (T := TX5) (N := 17) S.1 S.2.1 S.2.2.2.2 hin S.2.2.2.1 hE.1 hP 0 rfl rfl 5 (by decide) hlink (fun _ h9 => h9) rfl hdg kk
theorem gw5_transactions (S : CallFix p m c cc nL s args Ts own) (hin : ∀ w ∈ wsX50, w ∈ Ts) (hE : ev D K A s) {u : MU} (hP : va_P D vwCl (wM K g u) H) {f : Int32} (hf : m_cn u = f) (hlink : (Cond.fieldLink own index "RowPagesModel" "transactions" "I").before args s = true) (hdg : decode cc pc = .ok (.getfield index, 3)) (kk : W p l e R s m args below meth c H locs cells slots Q (F0 m (pc + 3) ls (.int f :: rest))) : W p l e R s m args below meth c H locs cells slots Q (F0 m pc ls (.ref (g 0) :: rest)) := by
  subst hf
  exact va_get (D := D) (ci := 5) (v := .int (m_cn u)) (C := RX5) (T := TX5) (N := 17) S.1 S.2.1 S.2.2.2.2 hin S.2.2.2.1 hE.1 hP 0 rfl rfl 6 (by decide) hlink (fun _ h9 => h9) rfl hdg kk
theorem pw5_transactions (S : CallFix p m c cc nL s args Ts own) (hin : ∀ w ∈ wsX50, w ∈ Ts) (hE : ev D K A s) {u : MU} (hP : va_P D vwCl (wM K g u) H) {sz : Nat} {x : Int32} (hg : gd L g 14) (hS : va_S (fr L sz) s.heap H locs) (hlink : (Cond.fieldLink own index "RowPagesModel" "transactions" "I").before args s = true) (hdg : decode cc pc = .ok (.putfield index, 3)) (kk : ∀ (H1 : Heap) (locs1 : List Loc), va_P D vwCl (wM K g (ms_cn u x)) H1 → va_S (fr L sz) s.heap H1 locs1 → W p l e R s m args below meth c H1 locs1 cells slots Q (F0 m (pc + 3) ls rest)) : W p l e R s m args below meth c H locs cells slots Q (F0 m pc ls (.int x :: .ref (g 0) :: rest)) :=
  va_put (D := D) (ci := 5) (v := .int x) (ty := .int) (C := RX5) (T := TX5) (N := 17) S.1 S.2.1 S.2.2.2.2 hin tyX5 tyX5_ok nmX5 S.2.2.2.1 hE.1 hP (wM_D hg) hS 0 rfl rfl 6 (by decide) hlink (fun _ h9 => h9) rfl (by decide +kernel) rfl rfl (Nat.le_of_ble_eq_true rfl) hdg (fun H1 locs1 hP1 hD1 hS1 => kk H1 locs1 hP1 hS1)
theorem gw5_isUsed (S : CallFix p m c cc nL s args Ts own) (hin : ∀ w ∈ wsX50, w ∈ Ts) (hE : ev D K A s) {u : MU} (hP : va_P D vwCl (wM K g u) H) (hlink : (Cond.fieldLink own index "RowPagesModel" "isUsed" "[Z").before args s = true) (hdg : decode cc pc = .ok (.getfield index, 3)) (kk : W p l e R s m args below meth c H locs cells slots Q (F0 m (pc + 3) ls (.ref (g 4) :: rest))) : W p l e R s m args below meth c H locs cells slots Q (F0 m pc ls (.ref (g 0) :: rest)) :=
  va_get (D := D) (ci := 5) (v := .ref (g 4)) (C := RX5) (T := TX5) (N := 17) S.1 S.2.1 S.2.2.2.2 hin S.2.2.2.1 hE.1 hP 0 rfl rfl 7 (by decide) hlink (fun _ h9 => h9) rfl hdg kk
theorem gw5_key (S : CallFix p m c cc nL s args Ts own) (hin : ∀ w ∈ wsX50, w ∈ Ts) (hE : ev D K A s) {u : MU} (hP : va_P D vwCl (wM K g u) H) (hlink : (Cond.fieldLink own index "RowPagesModel" "key" "[I").before args s = true) (hdg : decode cc pc = .ok (.getfield index, 3)) (kk : W p l e R s m args below meth c H locs cells slots Q (F0 m (pc + 3) ls (.ref (g 5) :: rest))) : W p l e R s m args below meth c H locs cells slots Q (F0 m pc ls (.ref (g 0) :: rest)) :=
  va_get (D := D) (ci := 5) (v := .ref (g 5)) (C := RX5) (T := TX5) (N := 17) S.1 S.2.1 S.2.2.2.2 hin S.2.2.2.1 hE.1 hP 0 rfl rfl 8 (by decide) hlink (fun _ h9 => h9) rfl hdg kk
theorem gw5_value (S : CallFix p m c cc nL s args Ts own) (hin : ∀ w ∈ wsX50, w ∈ Ts) (hE : ev D K A s) {u : MU} (hP : va_P D vwCl (wM K g u) H) (hlink : (Cond.fieldLink own index "RowPagesModel" "value" "[I").before args s = true) (hdg : decode cc pc = .ok (.getfield index, 3)) (kk : W p l e R s m args below meth c H locs cells slots Q (F0 m (pc + 3) ls (.ref (g 6) :: rest))) : W p l e R s m args below meth c H locs cells slots Q (F0 m pc ls (.ref (g 0) :: rest)) :=
  va_get (D := D) (ci := 5) (v := .ref (g 6)) (C := RX5) (T := TX5) (N := 17) S.1 S.2.1 S.2.2.2.2 hin S.2.2.2.1 hE.1 hP 0 rfl rfl 9 (by decide) hlink (fun _ h9 => h9) rfl hdg kk
theorem gw5_birth (S : CallFix p m c cc nL s args Ts own) (hin : ∀ w ∈ wsX50, w ∈ Ts) (hE : ev D K A s) {u : MU} (hP : va_P D vwCl (wM K g u) H) (hlink : (Cond.fieldLink own index "RowPagesModel" "birth" "[I").before args s = true) (hdg : decode cc pc = .ok (.getfield index, 3)) (kk : W p l e R s m args below meth c H locs cells slots Q (F0 m (pc + 3) ls (.ref (g 7) :: rest))) : W p l e R s m args below meth c H locs cells slots Q (F0 m pc ls (.ref (g 0) :: rest)) :=
  va_get (D := D) (ci := 5) (v := .ref (g 7)) (C := RX5) (T := TX5) (N := 17) S.1 S.2.1 S.2.2.2.2 hin S.2.2.2.1 hE.1 hP 0 rfl rfl 10 (by decide) hlink (fun _ h9 => h9) rfl hdg kk
theorem gw5_isFrozen (S : CallFix p m c cc nL s args Ts own) (hin : ∀ w ∈ wsX50, w ∈ Ts) (hE : ev D K A s) {u : MU} (hP : va_P D vwCl (wM K g u) H) (hlink : (Cond.fieldLink own index "RowPagesModel" "isFrozen" "[Z").before args s = true) (hdg : decode cc pc = .ok (.getfield index, 3)) (kk : W p l e R s m args below meth c H locs cells slots Q (F0 m (pc + 3) ls (.ref (g 8) :: rest))) : W p l e R s m args below meth c H locs cells slots Q (F0 m pc ls (.ref (g 0) :: rest)) :=
  va_get (D := D) (ci := 5) (v := .ref (g 8)) (C := RX5) (T := TX5) (N := 17) S.1 S.2.1 S.2.2.2.2 hin S.2.2.2.1 hE.1 hP 0 rfl rfl 11 (by decide) hlink (fun _ h9 => h9) rfl hdg kk
theorem gw5_death (S : CallFix p m c cc nL s args Ts own) (hin : ∀ w ∈ wsX50, w ∈ Ts) (hE : ev D K A s) {u : MU} (hP : va_P D vwCl (wM K g u) H) (hlink : (Cond.fieldLink own index "RowPagesModel" "death" "[I").before args s = true) (hdg : decode cc pc = .ok (.getfield index, 3)) (kk : W p l e R s m args below meth c H locs cells slots Q (F0 m (pc + 3) ls (.ref (g 9) :: rest))) : W p l e R s m args below meth c H locs cells slots Q (F0 m pc ls (.ref (g 0) :: rest)) :=
  va_get (D := D) (ci := 5) (v := .ref (g 9)) (C := RX5) (T := TX5) (N := 17) S.1 S.2.1 S.2.2.2.2 hin S.2.2.2.1 hE.1 hP 0 rfl rfl 12 (by decide) hlink (fun _ h9 => h9) rfl hdg kk
theorem gw5_next (S : CallFix p m c cc nL s args Ts own) (hin : ∀ w ∈ wsX50, w ∈ Ts) (hE : ev D K A s) {u : MU} (hP : va_P D vwCl (wM K g u) H) (hlink : (Cond.fieldLink own index "RowPagesModel" "next" "[I").before args s = true) (hdg : decode cc pc = .ok (.getfield index, 3)) (kk : W p l e R s m args below meth c H locs cells slots Q (F0 m (pc + 3) ls (.ref (g 10) :: rest))) : W p l e R s m args below meth c H locs cells slots Q (F0 m pc ls (.ref (g 0) :: rest)) :=
  va_get (D := D) (ci := 5) (v := .ref (g 10)) (C := RX5) (T := TX5) (N := 17) S.1 S.2.1 S.2.2.2.2 hin S.2.2.2.1 hE.1 hP 0 rfl rfl 13 (by decide) hlink (fun _ h9 => h9) rfl hdg kk
theorem gw5_isMapped (S : CallFix p m c cc nL s args Ts own) (hin : ∀ w ∈ wsX50, w ∈ Ts) (hE : ev D K A s) {u : MU} (hP : va_P D vwCl (wM K g u) H) (hlink : (Cond.fieldLink own index "RowPagesModel" "isMapped" "[Z").before args s = true) (hdg : decode cc pc = .ok (.getfield index, 3)) (kk : W p l e R s m args below meth c H locs cells slots Q (F0 m (pc + 3) ls (.ref (g 11) :: rest))) : W p l e R s m args below meth c H locs cells slots Q (F0 m pc ls (.ref (g 0) :: rest)) :=
  va_get (D := D) (ci := 5) (v := .ref (g 11)) (C := RX5) (T := TX5) (N := 17) S.1 S.2.1 S.2.2.2.2 hin S.2.2.2.1 hE.1 hP 0 rfl rfl 14 (by decide) hlink (fun _ h9 => h9) rfl hdg kk
theorem gw5_entry (S : CallFix p m c cc nL s args Ts own) (hin : ∀ w ∈ wsX50, w ∈ Ts) (hE : ev D K A s) {u : MU} (hP : va_P D vwCl (wM K g u) H) (hlink : (Cond.fieldLink own index "RowPagesModel" "entry" "[I").before args s = true) (hdg : decode cc pc = .ok (.getfield index, 3)) (kk : W p l e R s m args below meth c H locs cells slots Q (F0 m (pc + 3) ls (.ref (g 12) :: rest))) : W p l e R s m args below meth c H locs cells slots Q (F0 m pc ls (.ref (g 0) :: rest)) :=
  va_get (D := D) (ci := 5) (v := .ref (g 12)) (C := RX5) (T := TX5) (N := 17) S.1 S.2.1 S.2.2.2.2 hin S.2.2.2.1 hE.1 hP 0 rfl rfl 15 (by decide) hlink (fun _ h9 => h9) rfl hdg kk
theorem gw5_entries (S : CallFix p m c cc nL s args Ts own) (hin : ∀ w ∈ wsX50, w ∈ Ts) (hE : ev D K A s) {u : MU} (hP : va_P D vwCl (wM K g u) H) (hlink : (Cond.fieldLink own index "RowPagesModel" "entries" "[I").before args s = true) (hdg : decode cc pc = .ok (.getfield index, 3)) (kk : W p l e R s m args below meth c H locs cells slots Q (F0 m (pc + 3) ls (.ref (g 13) :: rest))) : W p l e R s m args below meth c H locs cells slots Q (F0 m pc ls (.ref (g 0) :: rest)) :=
  va_get (D := D) (ci := 5) (v := .ref (g 13)) (C := RX5) (T := TX5) (N := 17) S.1 S.2.1 S.2.2.2.2 hin S.2.2.2.1 hE.1 hP 0 rfl rfl 16 (by decide) hlink (fun _ h9 => h9) rfl hdg kk
theorem lC_mp (S : CallFix p m c cc nL s args Ts own) (hE : ev D K A s) {u : CU} (hP : va_P D vwCl (wC K g u) H) {f : AI} (hf : c_mp u = f) (hj : j < 4) (hi : i = nI j) (hdg : decode cc pc = .ok (.baload, 1)) (kk : W p l e R s m args below meth c H locs cells slots Q (F0 m (pc + 1) ls (.int (f j) :: rest))) : W p l e R s m args below meth c H locs cells slots Q (F0 m pc ls (.int i :: .ref (g 5) :: rest)) := by
  subst hf
  refine va_zald S.1 S.2.1 hE.1 hP 5 2 rfl rfl (vin hj (by decide) hi) hdg ?_
  rw [vcl hj (by decide) hi]
  exact kk
theorem sC_mp (S : CallFix p m c cc nL s args Ts own) (hE : ev D K A s) {u : CU} (hP : va_P D vwCl (wC K g u) H) {sz : Nat} {x : Int32} (hb : vp_nar .boolean x = x) (hg : gd L g 29) (hS : va_S (fr L sz) s.heap H locs) (hj : j < 4) (hi : i = nI j) (hdg : decode cc pc = .ok (.bastore, 1)) (kk : ∀ (H1 : Heap) (locs1 : List Loc), va_P D vwCl (wC K g (s_mp u (upd (c_mp u) j x))) H1 → va_S (fr L sz) s.heap H1 locs1 → W p l e R s m args below meth c H1 locs1 cells slots Q (F0 m (pc + 1) ls rest)) : W p l e R s m args below meth c H locs cells slots Q (F0 m pc ls (.int x :: .int i :: .ref (g 5) :: rest)) := by
  refine va_zast S.1 S.2.1 hE.1 hP (wC_D hg) hS 5 2 rfl rfl (vin hj (by decide) hi) hdg (fun H1 locs1 hP1 hD1 hS1 => ?_)
  rw [vcl hj (by decide) hi, hb] at hP1
  exact kk H1 locs1 hP1 hS1
theorem lC_sp (S : CallFix p m c cc nL s args Ts own) (hE : ev D K A s) {u : CU} (hP : va_P D vwCl (wC K g u) H) {f : AI} (hf : c_sp u = f) (hj : j < 60) (hi : i = nI j) (hdg : decode cc pc = .ok (.iaload, 1)) (kk : W p l e R s m args below meth c H locs cells slots Q (F0 m (pc + 1) ls (.int (f j) :: rest))) : W p l e R s m args below meth c H locs cells slots Q (F0 m pc ls (.int i :: .ref (g 6) :: rest)) := by
  subst hf
  refine va_iald S.1 S.2.1 hE.1 hP 6 0 rfl rfl (vin hj (by decide) hi) hdg ?_
  rw [vcl hj (by decide) hi]
  exact kk
theorem sC_sp (S : CallFix p m c cc nL s args Ts own) (hE : ev D K A s) {u : CU} (hP : va_P D vwCl (wC K g u) H) {sz : Nat} {x : Int32} (hg : gd L g 29) (hS : va_S (fr L sz) s.heap H locs) (hj : j < 60) (hi : i = nI j) (hdg : decode cc pc = .ok (.iastore, 1)) (kk : ∀ (H1 : Heap) (locs1 : List Loc), va_P D vwCl (wC K g (s_sp u (upd (c_sp u) j x))) H1 → va_S (fr L sz) s.heap H1 locs1 → W p l e R s m args below meth c H1 locs1 cells slots Q (F0 m (pc + 1) ls rest)) : W p l e R s m args below meth c H locs cells slots Q (F0 m pc ls (.int x :: .int i :: .ref (g 6) :: rest)) := by
  refine va_iast S.1 S.2.1 hE.1 hP (wC_D hg) hS 6 0 rfl rfl (vin hj (by decide) hi) hdg (fun H1 locs1 hP1 hD1 hS1 => ?_)
  rw [vcl hj (by decide) hi] at hP1
  exact kk H1 locs1 hP1 hS1
theorem lC_sn (S : CallFix p m c cc nL s args Ts own) (hE : ev D K A s) {u : CU} (hP : va_P D vwCl (wC K g u) H) {f : AL} (hf : c_sn u = f) (hj : j < 60) (hi : i = nI j) (hdg : decode cc pc = .ok (.laload, 1)) (kk : W p l e R s m args below meth c H locs cells slots Q (F0 m (pc + 1) ls (.long (f j) :: rest))) : W p l e R s m args below meth c H locs cells slots Q (F0 m pc ls (.int i :: .ref (g 7) :: rest)) := by
  subst hf
  refine va_lald S.1 S.2.1 hE.1 hP 7 1 rfl rfl (vin hj (by decide) hi) hdg ?_
  rw [vcl hj (by decide) hi]
  exact kk
theorem sC_sn (S : CallFix p m c cc nL s args Ts own) (hE : ev D K A s) {u : CU} (hP : va_P D vwCl (wC K g u) H) {sz : Nat} {x : Int64} (hg : gd L g 29) (hS : va_S (fr L sz) s.heap H locs) (hj : j < 60) (hi : i = nI j) (hdg : decode cc pc = .ok (.lastore, 1)) (kk : ∀ (H1 : Heap) (locs1 : List Loc), va_P D vwCl (wC K g (s_sn u (vp_updL (c_sn u) j x))) H1 → va_S (fr L sz) s.heap H1 locs1 → W p l e R s m args below meth c H1 locs1 cells slots Q (F0 m (pc + 1) ls rest)) : W p l e R s m args below meth c H locs cells slots Q (F0 m pc ls (.long x :: .int i :: .ref (g 7) :: rest)) := by
  refine va_last S.1 S.2.1 hE.1 hP (wC_D hg) hS 7 1 rfl rfl (vin hj (by decide) hi) hdg (fun H1 locs1 hP1 hD1 hS1 => ?_)
  rw [vcl hj (by decide) hi] at hP1
  exact kk H1 locs1 hP1 hS1
theorem lC_k (S : CallFix p m c cc nL s args Ts own) (hE : ev D K A s) {u : CU} (hP : va_P D vwCl (wC K g u) H) {f : AI} (hf : c_k u = f) (hj : j < 32) (hi : i = nI j) (hdg : decode cc pc = .ok (.iaload, 1)) (kk : W p l e R s m args below meth c H locs cells slots Q (F0 m (pc + 1) ls (.int (f j) :: rest))) : W p l e R s m args below meth c H locs cells slots Q (F0 m pc ls (.int i :: .ref (g 8) :: rest)) := by
  subst hf
  refine va_iald S.1 S.2.1 hE.1 hP 8 0 rfl rfl (vin hj (by decide) hi) hdg ?_
  rw [vcl hj (by decide) hi]
  exact kk
theorem sC_k (S : CallFix p m c cc nL s args Ts own) (hE : ev D K A s) {u : CU} (hP : va_P D vwCl (wC K g u) H) {sz : Nat} {x : Int32} (hg : gd L g 29) (hS : va_S (fr L sz) s.heap H locs) (hj : j < 32) (hi : i = nI j) (hdg : decode cc pc = .ok (.iastore, 1)) (kk : ∀ (H1 : Heap) (locs1 : List Loc), va_P D vwCl (wC K g (s_k u (upd (c_k u) j x))) H1 → va_S (fr L sz) s.heap H1 locs1 → W p l e R s m args below meth c H1 locs1 cells slots Q (F0 m (pc + 1) ls rest)) : W p l e R s m args below meth c H locs cells slots Q (F0 m pc ls (.int x :: .int i :: .ref (g 8) :: rest)) := by
  refine va_iast S.1 S.2.1 hE.1 hP (wC_D hg) hS 8 0 rfl rfl (vin hj (by decide) hi) hdg (fun H1 locs1 hP1 hD1 hS1 => ?_)
  rw [vcl hj (by decide) hi] at hP1
  exact kk H1 locs1 hP1 hS1
theorem lC_v (S : CallFix p m c cc nL s args Ts own) (hE : ev D K A s) {u : CU} (hP : va_P D vwCl (wC K g u) H) {f : AI} (hf : c_v u = f) (hj : j < 32) (hi : i = nI j) (hdg : decode cc pc = .ok (.iaload, 1)) (kk : W p l e R s m args below meth c H locs cells slots Q (F0 m (pc + 1) ls (.int (f j) :: rest))) : W p l e R s m args below meth c H locs cells slots Q (F0 m pc ls (.int i :: .ref (g 9) :: rest)) := by
  subst hf
  refine va_iald S.1 S.2.1 hE.1 hP 9 0 rfl rfl (vin hj (by decide) hi) hdg ?_
  rw [vcl hj (by decide) hi]
  exact kk
theorem sC_v (S : CallFix p m c cc nL s args Ts own) (hE : ev D K A s) {u : CU} (hP : va_P D vwCl (wC K g u) H) {sz : Nat} {x : Int32} (hg : gd L g 29) (hS : va_S (fr L sz) s.heap H locs) (hj : j < 32) (hi : i = nI j) (hdg : decode cc pc = .ok (.iastore, 1)) (kk : ∀ (H1 : Heap) (locs1 : List Loc), va_P D vwCl (wC K g (s_v u (upd (c_v u) j x))) H1 → va_S (fr L sz) s.heap H1 locs1 → W p l e R s m args below meth c H1 locs1 cells slots Q (F0 m (pc + 1) ls rest)) : W p l e R s m args below meth c H locs cells slots Q (F0 m pc ls (.int x :: .int i :: .ref (g 9) :: rest)) := by
  refine va_iast S.1 S.2.1 hE.1 hP (wC_D hg) hS 9 0 rfl rfl (vin hj (by decide) hi) hdg (fun H1 locs1 hP1 hD1 hS1 => ?_)
  rw [vcl hj (by decide) hi] at hP1
  exact kk H1 locs1 hP1 hS1
theorem lC_b (S : CallFix p m c cc nL s args Ts own) (hE : ev D K A s) {u : CU} (hP : va_P D vwCl (wC K g u) H) {f : AI} (hf : c_b u = f) (hj : j < 32) (hi : i = nI j) (hdg : decode cc pc = .ok (.iaload, 1)) (kk : W p l e R s m args below meth c H locs cells slots Q (F0 m (pc + 1) ls (.int (f j) :: rest))) : W p l e R s m args below meth c H locs cells slots Q (F0 m pc ls (.int i :: .ref (g 10) :: rest)) := by
  subst hf
  refine va_iald S.1 S.2.1 hE.1 hP 10 0 rfl rfl (vin hj (by decide) hi) hdg ?_
  rw [vcl hj (by decide) hi]
  exact kk
theorem sC_b (S : CallFix p m c cc nL s args Ts own) (hE : ev D K A s) {u : CU} (hP : va_P D vwCl (wC K g u) H) {sz : Nat} {x : Int32} (hg : gd L g 29) (hS : va_S (fr L sz) s.heap H locs) (hj : j < 32) (hi : i = nI j) (hdg : decode cc pc = .ok (.iastore, 1)) (kk : ∀ (H1 : Heap) (locs1 : List Loc), va_P D vwCl (wC K g (s_b u (upd (c_b u) j x))) H1 → va_S (fr L sz) s.heap H1 locs1 → W p l e R s m args below meth c H1 locs1 cells slots Q (F0 m (pc + 1) ls rest)) : W p l e R s m args below meth c H locs cells slots Q (F0 m pc ls (.int x :: .int i :: .ref (g 10) :: rest)) := by
  refine va_iast S.1 S.2.1 hE.1 hP (wC_D hg) hS 10 0 rfl rfl (vin hj (by decide) hi) hdg (fun H1 locs1 hP1 hD1 hS1 => ?_)
  rw [vcl hj (by decide) hi] at hP1
  exact kk H1 locs1 hP1 hS1
theorem lC_bs (S : CallFix p m c cc nL s args Ts own) (hE : ev D K A s) {u : CU} (hP : va_P D vwCl (wC K g u) H) {f : AI} (hf : c_bs u = f) (hj : j < 32) (hi : i = nI j) (hdg : decode cc pc = .ok (.iaload, 1)) (kk : W p l e R s m args below meth c H locs cells slots Q (F0 m (pc + 1) ls (.int (f j) :: rest))) : W p l e R s m args below meth c H locs cells slots Q (F0 m pc ls (.int i :: .ref (g 11) :: rest)) := by
  subst hf
  refine va_iald S.1 S.2.1 hE.1 hP 11 0 rfl rfl (vin hj (by decide) hi) hdg ?_
  rw [vcl hj (by decide) hi]
  exact kk
theorem sC_bs (S : CallFix p m c cc nL s args Ts own) (hE : ev D K A s) {u : CU} (hP : va_P D vwCl (wC K g u) H) {sz : Nat} {x : Int32} (hg : gd L g 29) (hS : va_S (fr L sz) s.heap H locs) (hj : j < 32) (hi : i = nI j) (hdg : decode cc pc = .ok (.iastore, 1)) (kk : ∀ (H1 : Heap) (locs1 : List Loc), va_P D vwCl (wC K g (s_bs u (upd (c_bs u) j x))) H1 → va_S (fr L sz) s.heap H1 locs1 → W p l e R s m args below meth c H1 locs1 cells slots Q (F0 m (pc + 1) ls rest)) : W p l e R s m args below meth c H locs cells slots Q (F0 m pc ls (.int x :: .int i :: .ref (g 11) :: rest)) := by
  refine va_iast S.1 S.2.1 hE.1 hP (wC_D hg) hS 11 0 rfl rfl (vin hj (by decide) hi) hdg (fun H1 locs1 hP1 hD1 hS1 => ?_)
  rw [vcl hj (by decide) hi] at hP1
  exact kk H1 locs1 hP1 hS1
theorem lC_f (S : CallFix p m c cc nL s args Ts own) (hE : ev D K A s) {u : CU} (hP : va_P D vwCl (wC K g u) H) {f : AI} (hf : c_f u = f) (hj : j < 32) (hi : i = nI j) (hdg : decode cc pc = .ok (.baload, 1)) (kk : W p l e R s m args below meth c H locs cells slots Q (F0 m (pc + 1) ls (.int (f j) :: rest))) : W p l e R s m args below meth c H locs cells slots Q (F0 m pc ls (.int i :: .ref (g 12) :: rest)) := by
  subst hf
  refine va_zald S.1 S.2.1 hE.1 hP 12 2 rfl rfl (vin hj (by decide) hi) hdg ?_
  rw [vcl hj (by decide) hi]
  exact kk
theorem sC_f (S : CallFix p m c cc nL s args Ts own) (hE : ev D K A s) {u : CU} (hP : va_P D vwCl (wC K g u) H) {sz : Nat} {x : Int32} (hb : vp_nar .boolean x = x) (hg : gd L g 29) (hS : va_S (fr L sz) s.heap H locs) (hj : j < 32) (hi : i = nI j) (hdg : decode cc pc = .ok (.bastore, 1)) (kk : ∀ (H1 : Heap) (locs1 : List Loc), va_P D vwCl (wC K g (s_f u (upd (c_f u) j x))) H1 → va_S (fr L sz) s.heap H1 locs1 → W p l e R s m args below meth c H1 locs1 cells slots Q (F0 m (pc + 1) ls rest)) : W p l e R s m args below meth c H locs cells slots Q (F0 m pc ls (.int x :: .int i :: .ref (g 12) :: rest)) := by
  refine va_zast S.1 S.2.1 hE.1 hP (wC_D hg) hS 12 2 rfl rfl (vin hj (by decide) hi) hdg (fun H1 locs1 hP1 hD1 hS1 => ?_)
  rw [vcl hj (by decide) hi, hb] at hP1
  exact kk H1 locs1 hP1 hS1
theorem lC_d (S : CallFix p m c cc nL s args Ts own) (hE : ev D K A s) {u : CU} (hP : va_P D vwCl (wC K g u) H) {f : AI} (hf : c_d u = f) (hj : j < 32) (hi : i = nI j) (hdg : decode cc pc = .ok (.iaload, 1)) (kk : W p l e R s m args below meth c H locs cells slots Q (F0 m (pc + 1) ls (.int (f j) :: rest))) : W p l e R s m args below meth c H locs cells slots Q (F0 m pc ls (.int i :: .ref (g 13) :: rest)) := by
  subst hf
  refine va_iald S.1 S.2.1 hE.1 hP 13 0 rfl rfl (vin hj (by decide) hi) hdg ?_
  rw [vcl hj (by decide) hi]
  exact kk
theorem sC_d (S : CallFix p m c cc nL s args Ts own) (hE : ev D K A s) {u : CU} (hP : va_P D vwCl (wC K g u) H) {sz : Nat} {x : Int32} (hg : gd L g 29) (hS : va_S (fr L sz) s.heap H locs) (hj : j < 32) (hi : i = nI j) (hdg : decode cc pc = .ok (.iastore, 1)) (kk : ∀ (H1 : Heap) (locs1 : List Loc), va_P D vwCl (wC K g (s_d u (upd (c_d u) j x))) H1 → va_S (fr L sz) s.heap H1 locs1 → W p l e R s m args below meth c H1 locs1 cells slots Q (F0 m (pc + 1) ls rest)) : W p l e R s m args below meth c H locs cells slots Q (F0 m pc ls (.int x :: .int i :: .ref (g 13) :: rest)) := by
  refine va_iast S.1 S.2.1 hE.1 hP (wC_D hg) hS 13 0 rfl rfl (vin hj (by decide) hi) hdg (fun H1 locs1 hP1 hD1 hS1 => ?_)
  rw [vcl hj (by decide) hi] at hP1
  exact kk H1 locs1 hP1 hS1
theorem lC_ds (S : CallFix p m c cc nL s args Ts own) (hE : ev D K A s) {u : CU} (hP : va_P D vwCl (wC K g u) H) {f : AI} (hf : c_ds u = f) (hj : j < 32) (hi : i = nI j) (hdg : decode cc pc = .ok (.iaload, 1)) (kk : W p l e R s m args below meth c H locs cells slots Q (F0 m (pc + 1) ls (.int (f j) :: rest))) : W p l e R s m args below meth c H locs cells slots Q (F0 m pc ls (.int i :: .ref (g 14) :: rest)) := by
  subst hf
  refine va_iald S.1 S.2.1 hE.1 hP 14 0 rfl rfl (vin hj (by decide) hi) hdg ?_
  rw [vcl hj (by decide) hi]
  exact kk
theorem sC_ds (S : CallFix p m c cc nL s args Ts own) (hE : ev D K A s) {u : CU} (hP : va_P D vwCl (wC K g u) H) {sz : Nat} {x : Int32} (hg : gd L g 29) (hS : va_S (fr L sz) s.heap H locs) (hj : j < 32) (hi : i = nI j) (hdg : decode cc pc = .ok (.iastore, 1)) (kk : ∀ (H1 : Heap) (locs1 : List Loc), va_P D vwCl (wC K g (s_ds u (upd (c_ds u) j x))) H1 → va_S (fr L sz) s.heap H1 locs1 → W p l e R s m args below meth c H1 locs1 cells slots Q (F0 m (pc + 1) ls rest)) : W p l e R s m args below meth c H locs cells slots Q (F0 m pc ls (.int x :: .int i :: .ref (g 14) :: rest)) := by
  refine va_iast S.1 S.2.1 hE.1 hP (wC_D hg) hS 14 0 rfl rfl (vin hj (by decide) hi) hdg (fun H1 locs1 hP1 hD1 hS1 => ?_)
  rw [vcl hj (by decide) hi] at hP1
  exact kk H1 locs1 hP1 hS1
theorem lC_n (S : CallFix p m c cc nL s args Ts own) (hE : ev D K A s) {u : CU} (hP : va_P D vwCl (wC K g u) H) {f : AI} (hf : c_n u = f) (hj : j < 32) (hi : i = nI j) (hdg : decode cc pc = .ok (.iaload, 1)) (kk : W p l e R s m args below meth c H locs cells slots Q (F0 m (pc + 1) ls (.int (f j) :: rest))) : W p l e R s m args below meth c H locs cells slots Q (F0 m pc ls (.int i :: .ref (g 15) :: rest)) := by
  subst hf
  refine va_iald S.1 S.2.1 hE.1 hP 15 0 rfl rfl (vin hj (by decide) hi) hdg ?_
  rw [vcl hj (by decide) hi]
  exact kk
theorem sC_n (S : CallFix p m c cc nL s args Ts own) (hE : ev D K A s) {u : CU} (hP : va_P D vwCl (wC K g u) H) {sz : Nat} {x : Int32} (hg : gd L g 29) (hS : va_S (fr L sz) s.heap H locs) (hj : j < 32) (hi : i = nI j) (hdg : decode cc pc = .ok (.iastore, 1)) (kk : ∀ (H1 : Heap) (locs1 : List Loc), va_P D vwCl (wC K g (s_n u (upd (c_n u) j x))) H1 → va_S (fr L sz) s.heap H1 locs1 → W p l e R s m args below meth c H1 locs1 cells slots Q (F0 m (pc + 1) ls rest)) : W p l e R s m args below meth c H locs cells slots Q (F0 m pc ls (.int x :: .int i :: .ref (g 15) :: rest)) := by
  refine va_iast S.1 S.2.1 hE.1 hP (wC_D hg) hS 15 0 rfl rfl (vin hj (by decide) hi) hdg (fun H1 locs1 hP1 hD1 hS1 => ?_)
  rw [vcl hj (by decide) hi] at hP1
  exact kk H1 locs1 hP1 hS1
theorem lC_r (S : CallFix p m c cc nL s args Ts own) (hE : ev D K A s) {u : CU} (hP : va_P D vwCl (wC K g u) H) {f : AI} (hf : c_r u = f) (hj : j < 32) (hi : i = nI j) (hdg : decode cc pc = .ok (.iaload, 1)) (kk : W p l e R s m args below meth c H locs cells slots Q (F0 m (pc + 1) ls (.int (f j) :: rest))) : W p l e R s m args below meth c H locs cells slots Q (F0 m pc ls (.int i :: .ref (g 16) :: rest)) := by
  subst hf
  refine va_iald S.1 S.2.1 hE.1 hP 16 0 rfl rfl (vin hj (by decide) hi) hdg ?_
  rw [vcl hj (by decide) hi]
  exact kk
theorem sC_r (S : CallFix p m c cc nL s args Ts own) (hE : ev D K A s) {u : CU} (hP : va_P D vwCl (wC K g u) H) {sz : Nat} {x : Int32} (hg : gd L g 29) (hS : va_S (fr L sz) s.heap H locs) (hj : j < 32) (hi : i = nI j) (hdg : decode cc pc = .ok (.iastore, 1)) (kk : ∀ (H1 : Heap) (locs1 : List Loc), va_P D vwCl (wC K g (s_r u (upd (c_r u) j x))) H1 → va_S (fr L sz) s.heap H1 locs1 → W p l e R s m args below meth c H1 locs1 cells slots Q (F0 m (pc + 1) ls rest)) : W p l e R s m args below meth c H locs cells slots Q (F0 m pc ls (.int x :: .int i :: .ref (g 16) :: rest)) := by
  refine va_iast S.1 S.2.1 hE.1 hP (wC_D hg) hS 16 0 rfl rfl (vin hj (by decide) hi) hdg (fun H1 locs1 hP1 hD1 hS1 => ?_)
  rw [vcl hj (by decide) hi] at hP1
  exact kk H1 locs1 hP1 hS1
theorem lC_ct (S : CallFix p m c cc nL s args Ts own) (hE : ev D K A s) {u : CU} (hP : va_P D vwCl (wC K g u) H) {f : AI} (hf : c_ct u = f) (hj : j < 6) (hi : i = nI j) (hdg : decode cc pc = .ok (.iaload, 1)) (kk : W p l e R s m args below meth c H locs cells slots Q (F0 m (pc + 1) ls (.int (f j) :: rest))) : W p l e R s m args below meth c H locs cells slots Q (F0 m pc ls (.int i :: .ref (g 18) :: rest)) := by
  subst hf
  refine va_iald S.1 S.2.1 hE.1 hP 18 0 rfl rfl (vin hj (by decide) hi) hdg ?_
  rw [vcl hj (by decide) hi]
  exact kk
theorem sC_ct (S : CallFix p m c cc nL s args Ts own) (hE : ev D K A s) {u : CU} (hP : va_P D vwCl (wC K g u) H) {sz : Nat} {x : Int32} (hg : gd L g 29) (hS : va_S (fr L sz) s.heap H locs) (hj : j < 6) (hi : i = nI j) (hdg : decode cc pc = .ok (.iastore, 1)) (kk : ∀ (H1 : Heap) (locs1 : List Loc), va_P D vwCl (wC K g (s_ct u (upd (c_ct u) j x))) H1 → va_S (fr L sz) s.heap H1 locs1 → W p l e R s m args below meth c H1 locs1 cells slots Q (F0 m (pc + 1) ls rest)) : W p l e R s m args below meth c H locs cells slots Q (F0 m pc ls (.int x :: .int i :: .ref (g 18) :: rest)) := by
  refine va_iast S.1 S.2.1 hE.1 hP (wC_D hg) hS 18 0 rfl rfl (vin hj (by decide) hi) hdg (fun H1 locs1 hP1 hD1 hS1 => ?_)
  rw [vcl hj (by decide) hi] at hP1
  exact kk H1 locs1 hP1 hS1
theorem lC_tk (S : CallFix p m c cc nL s args Ts own) (hE : ev D K A s) {u : CU} (hP : va_P D vwCl (wC K g u) H) {f : AI} (hf : c_tk u = f) (hj : j < 512) (hi : i = nI j) (hdg : decode cc pc = .ok (.iaload, 1)) (kk : W p l e R s m args below meth c H locs cells slots Q (F0 m (pc + 1) ls (.int (f j) :: rest))) : W p l e R s m args below meth c H locs cells slots Q (F0 m pc ls (.int i :: .ref (g 25) :: rest)) := by
  subst hf
  refine va_iald S.1 S.2.1 hE.1 hP 25 0 rfl rfl (vin hj (by decide) hi) hdg ?_
  rw [vcl hj (by decide) hi]
  exact kk
theorem sC_tk (S : CallFix p m c cc nL s args Ts own) (hE : ev D K A s) {u : CU} (hP : va_P D vwCl (wC K g u) H) {sz : Nat} {x : Int32} (hg : gd L g 29) (hS : va_S (fr L sz) s.heap H locs) (hj : j < 512) (hi : i = nI j) (hdg : decode cc pc = .ok (.iastore, 1)) (kk : ∀ (H1 : Heap) (locs1 : List Loc), va_P D vwCl (wC K g (s_tk u (upd (c_tk u) j x))) H1 → va_S (fr L sz) s.heap H1 locs1 → W p l e R s m args below meth c H1 locs1 cells slots Q (F0 m (pc + 1) ls rest)) : W p l e R s m args below meth c H locs cells slots Q (F0 m pc ls (.int x :: .int i :: .ref (g 25) :: rest)) := by
  refine va_iast S.1 S.2.1 hE.1 hP (wC_D hg) hS 25 0 rfl rfl (vin hj (by decide) hi) hdg (fun H1 locs1 hP1 hD1 hS1 => ?_)
  rw [vcl hj (by decide) hi] at hP1
  exact kk H1 locs1 hP1 hS1
theorem lC_tv (S : CallFix p m c cc nL s args Ts own) (hE : ev D K A s) {u : CU} (hP : va_P D vwCl (wC K g u) H) {f : AI} (hf : c_tv u = f) (hj : j < 512) (hi : i = nI j) (hdg : decode cc pc = .ok (.iaload, 1)) (kk : W p l e R s m args below meth c H locs cells slots Q (F0 m (pc + 1) ls (.int (f j) :: rest))) : W p l e R s m args below meth c H locs cells slots Q (F0 m pc ls (.int i :: .ref (g 26) :: rest)) := by
  subst hf
  refine va_iald S.1 S.2.1 hE.1 hP 26 0 rfl rfl (vin hj (by decide) hi) hdg ?_
  rw [vcl hj (by decide) hi]
  exact kk
theorem sC_tv (S : CallFix p m c cc nL s args Ts own) (hE : ev D K A s) {u : CU} (hP : va_P D vwCl (wC K g u) H) {sz : Nat} {x : Int32} (hg : gd L g 29) (hS : va_S (fr L sz) s.heap H locs) (hj : j < 512) (hi : i = nI j) (hdg : decode cc pc = .ok (.iastore, 1)) (kk : ∀ (H1 : Heap) (locs1 : List Loc), va_P D vwCl (wC K g (s_tv u (upd (c_tv u) j x))) H1 → va_S (fr L sz) s.heap H1 locs1 → W p l e R s m args below meth c H1 locs1 cells slots Q (F0 m (pc + 1) ls rest)) : W p l e R s m args below meth c H locs cells slots Q (F0 m pc ls (.int x :: .int i :: .ref (g 26) :: rest)) := by
  refine va_iast S.1 S.2.1 hE.1 hP (wC_D hg) hS 26 0 rfl rfl (vin hj (by decide) hi) hdg (fun H1 locs1 hP1 hD1 hS1 => ?_)
  rw [vcl hj (by decide) hi] at hP1
  exact kk H1 locs1 hP1 hS1
theorem lC_tb (S : CallFix p m c cc nL s args Ts own) (hE : ev D K A s) {u : CU} (hP : va_P D vwCl (wC K g u) H) {f : AI} (hf : c_tb u = f) (hj : j < 512) (hi : i = nI j) (hdg : decode cc pc = .ok (.iaload, 1)) (kk : W p l e R s m args below meth c H locs cells slots Q (F0 m (pc + 1) ls (.int (f j) :: rest))) : W p l e R s m args below meth c H locs cells slots Q (F0 m pc ls (.int i :: .ref (g 27) :: rest)) := by
  subst hf
  refine va_iald S.1 S.2.1 hE.1 hP 27 0 rfl rfl (vin hj (by decide) hi) hdg ?_
  rw [vcl hj (by decide) hi]
  exact kk
theorem sC_tb (S : CallFix p m c cc nL s args Ts own) (hE : ev D K A s) {u : CU} (hP : va_P D vwCl (wC K g u) H) {sz : Nat} {x : Int32} (hg : gd L g 29) (hS : va_S (fr L sz) s.heap H locs) (hj : j < 512) (hi : i = nI j) (hdg : decode cc pc = .ok (.iastore, 1)) (kk : ∀ (H1 : Heap) (locs1 : List Loc), va_P D vwCl (wC K g (s_tb u (upd (c_tb u) j x))) H1 → va_S (fr L sz) s.heap H1 locs1 → W p l e R s m args below meth c H1 locs1 cells slots Q (F0 m (pc + 1) ls rest)) : W p l e R s m args below meth c H locs cells slots Q (F0 m pc ls (.int x :: .int i :: .ref (g 27) :: rest)) := by
  refine va_iast S.1 S.2.1 hE.1 hP (wC_D hg) hS 27 0 rfl rfl (vin hj (by decide) hi) hdg (fun H1 locs1 hP1 hD1 hS1 => ?_)
  rw [vcl hj (by decide) hi] at hP1
  exact kk H1 locs1 hP1 hS1
theorem lC_td (S : CallFix p m c cc nL s args Ts own) (hE : ev D K A s) {u : CU} (hP : va_P D vwCl (wC K g u) H) {f : AI} (hf : c_td u = f) (hj : j < 512) (hi : i = nI j) (hdg : decode cc pc = .ok (.iaload, 1)) (kk : W p l e R s m args below meth c H locs cells slots Q (F0 m (pc + 1) ls (.int (f j) :: rest))) : W p l e R s m args below meth c H locs cells slots Q (F0 m pc ls (.int i :: .ref (g 28) :: rest)) := by
  subst hf
  refine va_iald S.1 S.2.1 hE.1 hP 28 0 rfl rfl (vin hj (by decide) hi) hdg ?_
  rw [vcl hj (by decide) hi]
  exact kk
theorem sC_td (S : CallFix p m c cc nL s args Ts own) (hE : ev D K A s) {u : CU} (hP : va_P D vwCl (wC K g u) H) {sz : Nat} {x : Int32} (hg : gd L g 29) (hS : va_S (fr L sz) s.heap H locs) (hj : j < 512) (hi : i = nI j) (hdg : decode cc pc = .ok (.iastore, 1)) (kk : ∀ (H1 : Heap) (locs1 : List Loc), va_P D vwCl (wC K g (s_td u (upd (c_td u) j x))) H1 → va_S (fr L sz) s.heap H1 locs1 → W p l e R s m args below meth c H1 locs1 cells slots Q (F0 m (pc + 1) ls rest)) : W p l e R s m args below meth c H locs cells slots Q (F0 m pc ls (.int x :: .int i :: .ref (g 28) :: rest)) := by
  refine va_iast S.1 S.2.1 hE.1 hP (wC_D hg) hS 28 0 rfl rfl (vin hj (by decide) hi) hdg (fun H1 locs1 hP1 hD1 hS1 => ?_)
  rw [vcl hj (by decide) hi] at hP1
  exact kk H1 locs1 hP1 hS1
theorem lM_st (S : CallFix p m c cc nL s args Ts own) (hE : ev D K A s) {u : MU} (hP : va_P D vwCl (wM K g u) H) {f : AI} (hf : m_st u = f) (hj : j < 60) (hi : i = nI j) (hdg : decode cc pc = .ok (.iaload, 1)) (kk : W p l e R s m args below meth c H locs cells slots Q (F0 m (pc + 1) ls (.int (f j) :: rest))) : W p l e R s m args below meth c H locs cells slots Q (F0 m pc ls (.int i :: .ref (g 1) :: rest)) := by
  subst hf
  refine va_iald S.1 S.2.1 hE.1 hP 1 0 rfl rfl (vin hj (by decide) hi) hdg ?_
  rw [vcl hj (by decide) hi]
  exact kk
theorem sM_st (S : CallFix p m c cc nL s args Ts own) (hE : ev D K A s) {u : MU} (hP : va_P D vwCl (wM K g u) H) {sz : Nat} {x : Int32} (hg : gd L g 14) (hS : va_S (fr L sz) s.heap H locs) (hj : j < 60) (hi : i = nI j) (hdg : decode cc pc = .ok (.iastore, 1)) (kk : ∀ (H1 : Heap) (locs1 : List Loc), va_P D vwCl (wM K g (ms_st u (upd (m_st u) j x))) H1 → va_S (fr L sz) s.heap H1 locs1 → W p l e R s m args below meth c H1 locs1 cells slots Q (F0 m (pc + 1) ls rest)) : W p l e R s m args below meth c H locs cells slots Q (F0 m pc ls (.int x :: .int i :: .ref (g 1) :: rest)) := by
  refine va_iast S.1 S.2.1 hE.1 hP (wM_D hg) hS 1 0 rfl rfl (vin hj (by decide) hi) hdg (fun H1 locs1 hP1 hD1 hS1 => ?_)
  rw [vcl hj (by decide) hi] at hP1
  exact kk H1 locs1 hP1 hS1
theorem lM_sta (S : CallFix p m c cc nL s args Ts own) (hE : ev D K A s) {u : MU} (hP : va_P D vwCl (wM K g u) H) {f : AI} (hf : m_sta u = f) (hj : j < 60) (hi : i = nI j) (hdg : decode cc pc = .ok (.iaload, 1)) (kk : W p l e R s m args below meth c H locs cells slots Q (F0 m (pc + 1) ls (.int (f j) :: rest))) : W p l e R s m args below meth c H locs cells slots Q (F0 m pc ls (.int i :: .ref (g 2) :: rest)) := by
  subst hf
  refine va_iald S.1 S.2.1 hE.1 hP 2 0 rfl rfl (vin hj (by decide) hi) hdg ?_
  rw [vcl hj (by decide) hi]
  exact kk
theorem sM_sta (S : CallFix p m c cc nL s args Ts own) (hE : ev D K A s) {u : MU} (hP : va_P D vwCl (wM K g u) H) {sz : Nat} {x : Int32} (hg : gd L g 14) (hS : va_S (fr L sz) s.heap H locs) (hj : j < 60) (hi : i = nI j) (hdg : decode cc pc = .ok (.iastore, 1)) (kk : ∀ (H1 : Heap) (locs1 : List Loc), va_P D vwCl (wM K g (ms_sta u (upd (m_sta u) j x))) H1 → va_S (fr L sz) s.heap H1 locs1 → W p l e R s m args below meth c H1 locs1 cells slots Q (F0 m (pc + 1) ls rest)) : W p l e R s m args below meth c H locs cells slots Q (F0 m pc ls (.int x :: .int i :: .ref (g 2) :: rest)) := by
  refine va_iast S.1 S.2.1 hE.1 hP (wM_D hg) hS 2 0 rfl rfl (vin hj (by decide) hi) hdg (fun H1 locs1 hP1 hD1 hS1 => ?_)
  rw [vcl hj (by decide) hi] at hP1
  exact kk H1 locs1 hP1 hS1
theorem lM_sn (S : CallFix p m c cc nL s args Ts own) (hE : ev D K A s) {u : MU} (hP : va_P D vwCl (wM K g u) H) {f : AL} (hf : m_sn u = f) (hj : j < 60) (hi : i = nI j) (hdg : decode cc pc = .ok (.laload, 1)) (kk : W p l e R s m args below meth c H locs cells slots Q (F0 m (pc + 1) ls (.long (f j) :: rest))) : W p l e R s m args below meth c H locs cells slots Q (F0 m pc ls (.int i :: .ref (g 3) :: rest)) := by
  subst hf
  refine va_lald S.1 S.2.1 hE.1 hP 3 1 rfl rfl (vin hj (by decide) hi) hdg ?_
  rw [vcl hj (by decide) hi]
  exact kk
theorem sM_sn (S : CallFix p m c cc nL s args Ts own) (hE : ev D K A s) {u : MU} (hP : va_P D vwCl (wM K g u) H) {sz : Nat} {x : Int64} (hg : gd L g 14) (hS : va_S (fr L sz) s.heap H locs) (hj : j < 60) (hi : i = nI j) (hdg : decode cc pc = .ok (.lastore, 1)) (kk : ∀ (H1 : Heap) (locs1 : List Loc), va_P D vwCl (wM K g (ms_sn u (vp_updL (m_sn u) j x))) H1 → va_S (fr L sz) s.heap H1 locs1 → W p l e R s m args below meth c H1 locs1 cells slots Q (F0 m (pc + 1) ls rest)) : W p l e R s m args below meth c H locs cells slots Q (F0 m pc ls (.long x :: .int i :: .ref (g 3) :: rest)) := by
  refine va_last S.1 S.2.1 hE.1 hP (wM_D hg) hS 3 1 rfl rfl (vin hj (by decide) hi) hdg (fun H1 locs1 hP1 hD1 hS1 => ?_)
  rw [vcl hj (by decide) hi] at hP1
  exact kk H1 locs1 hP1 hS1
theorem lM_us (S : CallFix p m c cc nL s args Ts own) (hE : ev D K A s) {u : MU} (hP : va_P D vwCl (wM K g u) H) {f : AI} (hf : m_us u = f) (hj : j < 32) (hi : i = nI j) (hdg : decode cc pc = .ok (.baload, 1)) (kk : W p l e R s m args below meth c H locs cells slots Q (F0 m (pc + 1) ls (.int (f j) :: rest))) : W p l e R s m args below meth c H locs cells slots Q (F0 m pc ls (.int i :: .ref (g 4) :: rest)) := by
  subst hf
  refine va_zald S.1 S.2.1 hE.1 hP 4 2 rfl rfl (vin hj (by decide) hi) hdg ?_
  rw [vcl hj (by decide) hi]
  exact kk
theorem sM_us (S : CallFix p m c cc nL s args Ts own) (hE : ev D K A s) {u : MU} (hP : va_P D vwCl (wM K g u) H) {sz : Nat} {x : Int32} (hb : vp_nar .boolean x = x) (hg : gd L g 14) (hS : va_S (fr L sz) s.heap H locs) (hj : j < 32) (hi : i = nI j) (hdg : decode cc pc = .ok (.bastore, 1)) (kk : ∀ (H1 : Heap) (locs1 : List Loc), va_P D vwCl (wM K g (ms_us u (upd (m_us u) j x))) H1 → va_S (fr L sz) s.heap H1 locs1 → W p l e R s m args below meth c H1 locs1 cells slots Q (F0 m (pc + 1) ls rest)) : W p l e R s m args below meth c H locs cells slots Q (F0 m pc ls (.int x :: .int i :: .ref (g 4) :: rest)) := by
  refine va_zast S.1 S.2.1 hE.1 hP (wM_D hg) hS 4 2 rfl rfl (vin hj (by decide) hi) hdg (fun H1 locs1 hP1 hD1 hS1 => ?_)
  rw [vcl hj (by decide) hi, hb] at hP1
  exact kk H1 locs1 hP1 hS1
theorem lM_k (S : CallFix p m c cc nL s args Ts own) (hE : ev D K A s) {u : MU} (hP : va_P D vwCl (wM K g u) H) {f : AI} (hf : m_k u = f) (hj : j < 32) (hi : i = nI j) (hdg : decode cc pc = .ok (.iaload, 1)) (kk : W p l e R s m args below meth c H locs cells slots Q (F0 m (pc + 1) ls (.int (f j) :: rest))) : W p l e R s m args below meth c H locs cells slots Q (F0 m pc ls (.int i :: .ref (g 5) :: rest)) := by
  subst hf
  refine va_iald S.1 S.2.1 hE.1 hP 5 0 rfl rfl (vin hj (by decide) hi) hdg ?_
  rw [vcl hj (by decide) hi]
  exact kk
theorem sM_k (S : CallFix p m c cc nL s args Ts own) (hE : ev D K A s) {u : MU} (hP : va_P D vwCl (wM K g u) H) {sz : Nat} {x : Int32} (hg : gd L g 14) (hS : va_S (fr L sz) s.heap H locs) (hj : j < 32) (hi : i = nI j) (hdg : decode cc pc = .ok (.iastore, 1)) (kk : ∀ (H1 : Heap) (locs1 : List Loc), va_P D vwCl (wM K g (ms_k u (upd (m_k u) j x))) H1 → va_S (fr L sz) s.heap H1 locs1 → W p l e R s m args below meth c H1 locs1 cells slots Q (F0 m (pc + 1) ls rest)) : W p l e R s m args below meth c H locs cells slots Q (F0 m pc ls (.int x :: .int i :: .ref (g 5) :: rest)) := by
  refine va_iast S.1 S.2.1 hE.1 hP (wM_D hg) hS 5 0 rfl rfl (vin hj (by decide) hi) hdg (fun H1 locs1 hP1 hD1 hS1 => ?_)
  rw [vcl hj (by decide) hi] at hP1
  exact kk H1 locs1 hP1 hS1
theorem lM_v (S : CallFix p m c cc nL s args Ts own) (hE : ev D K A s) {u : MU} (hP : va_P D vwCl (wM K g u) H) {f : AI} (hf : m_v u = f) (hj : j < 32) (hi : i = nI j) (hdg : decode cc pc = .ok (.iaload, 1)) (kk : W p l e R s m args below meth c H locs cells slots Q (F0 m (pc + 1) ls (.int (f j) :: rest))) : W p l e R s m args below meth c H locs cells slots Q (F0 m pc ls (.int i :: .ref (g 6) :: rest)) := by
  subst hf
  refine va_iald S.1 S.2.1 hE.1 hP 6 0 rfl rfl (vin hj (by decide) hi) hdg ?_
  rw [vcl hj (by decide) hi]
  exact kk
theorem sM_v (S : CallFix p m c cc nL s args Ts own) (hE : ev D K A s) {u : MU} (hP : va_P D vwCl (wM K g u) H) {sz : Nat} {x : Int32} (hg : gd L g 14) (hS : va_S (fr L sz) s.heap H locs) (hj : j < 32) (hi : i = nI j) (hdg : decode cc pc = .ok (.iastore, 1)) (kk : ∀ (H1 : Heap) (locs1 : List Loc), va_P D vwCl (wM K g (ms_v u (upd (m_v u) j x))) H1 → va_S (fr L sz) s.heap H1 locs1 → W p l e R s m args below meth c H1 locs1 cells slots Q (F0 m (pc + 1) ls rest)) : W p l e R s m args below meth c H locs cells slots Q (F0 m pc ls (.int x :: .int i :: .ref (g 6) :: rest)) := by
  refine va_iast S.1 S.2.1 hE.1 hP (wM_D hg) hS 6 0 rfl rfl (vin hj (by decide) hi) hdg (fun H1 locs1 hP1 hD1 hS1 => ?_)
  rw [vcl hj (by decide) hi] at hP1
  exact kk H1 locs1 hP1 hS1
theorem lM_b (S : CallFix p m c cc nL s args Ts own) (hE : ev D K A s) {u : MU} (hP : va_P D vwCl (wM K g u) H) {f : AI} (hf : m_b u = f) (hj : j < 32) (hi : i = nI j) (hdg : decode cc pc = .ok (.iaload, 1)) (kk : W p l e R s m args below meth c H locs cells slots Q (F0 m (pc + 1) ls (.int (f j) :: rest))) : W p l e R s m args below meth c H locs cells slots Q (F0 m pc ls (.int i :: .ref (g 7) :: rest)) := by
  subst hf
  refine va_iald S.1 S.2.1 hE.1 hP 7 0 rfl rfl (vin hj (by decide) hi) hdg ?_
  rw [vcl hj (by decide) hi]
  exact kk
theorem sM_b (S : CallFix p m c cc nL s args Ts own) (hE : ev D K A s) {u : MU} (hP : va_P D vwCl (wM K g u) H) {sz : Nat} {x : Int32} (hg : gd L g 14) (hS : va_S (fr L sz) s.heap H locs) (hj : j < 32) (hi : i = nI j) (hdg : decode cc pc = .ok (.iastore, 1)) (kk : ∀ (H1 : Heap) (locs1 : List Loc), va_P D vwCl (wM K g (ms_b u (upd (m_b u) j x))) H1 → va_S (fr L sz) s.heap H1 locs1 → W p l e R s m args below meth c H1 locs1 cells slots Q (F0 m (pc + 1) ls rest)) : W p l e R s m args below meth c H locs cells slots Q (F0 m pc ls (.int x :: .int i :: .ref (g 7) :: rest)) := by
  refine va_iast S.1 S.2.1 hE.1 hP (wM_D hg) hS 7 0 rfl rfl (vin hj (by decide) hi) hdg (fun H1 locs1 hP1 hD1 hS1 => ?_)
  rw [vcl hj (by decide) hi] at hP1
  exact kk H1 locs1 hP1 hS1
theorem lM_fr (S : CallFix p m c cc nL s args Ts own) (hE : ev D K A s) {u : MU} (hP : va_P D vwCl (wM K g u) H) {f : AI} (hf : m_fr u = f) (hj : j < 32) (hi : i = nI j) (hdg : decode cc pc = .ok (.baload, 1)) (kk : W p l e R s m args below meth c H locs cells slots Q (F0 m (pc + 1) ls (.int (f j) :: rest))) : W p l e R s m args below meth c H locs cells slots Q (F0 m pc ls (.int i :: .ref (g 8) :: rest)) := by
  subst hf
  refine va_zald S.1 S.2.1 hE.1 hP 8 2 rfl rfl (vin hj (by decide) hi) hdg ?_
  rw [vcl hj (by decide) hi]
  exact kk
theorem sM_fr (S : CallFix p m c cc nL s args Ts own) (hE : ev D K A s) {u : MU} (hP : va_P D vwCl (wM K g u) H) {sz : Nat} {x : Int32} (hb : vp_nar .boolean x = x) (hg : gd L g 14) (hS : va_S (fr L sz) s.heap H locs) (hj : j < 32) (hi : i = nI j) (hdg : decode cc pc = .ok (.bastore, 1)) (kk : ∀ (H1 : Heap) (locs1 : List Loc), va_P D vwCl (wM K g (ms_fr u (upd (m_fr u) j x))) H1 → va_S (fr L sz) s.heap H1 locs1 → W p l e R s m args below meth c H1 locs1 cells slots Q (F0 m (pc + 1) ls rest)) : W p l e R s m args below meth c H locs cells slots Q (F0 m pc ls (.int x :: .int i :: .ref (g 8) :: rest)) := by
  refine va_zast S.1 S.2.1 hE.1 hP (wM_D hg) hS 8 2 rfl rfl (vin hj (by decide) hi) hdg (fun H1 locs1 hP1 hD1 hS1 => ?_)
  rw [vcl hj (by decide) hi, hb] at hP1
  exact kk H1 locs1 hP1 hS1
theorem lM_d (S : CallFix p m c cc nL s args Ts own) (hE : ev D K A s) {u : MU} (hP : va_P D vwCl (wM K g u) H) {f : AI} (hf : m_d u = f) (hj : j < 32) (hi : i = nI j) (hdg : decode cc pc = .ok (.iaload, 1)) (kk : W p l e R s m args below meth c H locs cells slots Q (F0 m (pc + 1) ls (.int (f j) :: rest))) : W p l e R s m args below meth c H locs cells slots Q (F0 m pc ls (.int i :: .ref (g 9) :: rest)) := by
  subst hf
  refine va_iald S.1 S.2.1 hE.1 hP 9 0 rfl rfl (vin hj (by decide) hi) hdg ?_
  rw [vcl hj (by decide) hi]
  exact kk
theorem sM_d (S : CallFix p m c cc nL s args Ts own) (hE : ev D K A s) {u : MU} (hP : va_P D vwCl (wM K g u) H) {sz : Nat} {x : Int32} (hg : gd L g 14) (hS : va_S (fr L sz) s.heap H locs) (hj : j < 32) (hi : i = nI j) (hdg : decode cc pc = .ok (.iastore, 1)) (kk : ∀ (H1 : Heap) (locs1 : List Loc), va_P D vwCl (wM K g (ms_d u (upd (m_d u) j x))) H1 → va_S (fr L sz) s.heap H1 locs1 → W p l e R s m args below meth c H1 locs1 cells slots Q (F0 m (pc + 1) ls rest)) : W p l e R s m args below meth c H locs cells slots Q (F0 m pc ls (.int x :: .int i :: .ref (g 9) :: rest)) := by
  refine va_iast S.1 S.2.1 hE.1 hP (wM_D hg) hS 9 0 rfl rfl (vin hj (by decide) hi) hdg (fun H1 locs1 hP1 hD1 hS1 => ?_)
  rw [vcl hj (by decide) hi] at hP1
  exact kk H1 locs1 hP1 hS1
theorem lM_n (S : CallFix p m c cc nL s args Ts own) (hE : ev D K A s) {u : MU} (hP : va_P D vwCl (wM K g u) H) {f : AI} (hf : m_n u = f) (hj : j < 32) (hi : i = nI j) (hdg : decode cc pc = .ok (.iaload, 1)) (kk : W p l e R s m args below meth c H locs cells slots Q (F0 m (pc + 1) ls (.int (f j) :: rest))) : W p l e R s m args below meth c H locs cells slots Q (F0 m pc ls (.int i :: .ref (g 10) :: rest)) := by
  subst hf
  refine va_iald S.1 S.2.1 hE.1 hP 10 0 rfl rfl (vin hj (by decide) hi) hdg ?_
  rw [vcl hj (by decide) hi]
  exact kk
theorem sM_n (S : CallFix p m c cc nL s args Ts own) (hE : ev D K A s) {u : MU} (hP : va_P D vwCl (wM K g u) H) {sz : Nat} {x : Int32} (hg : gd L g 14) (hS : va_S (fr L sz) s.heap H locs) (hj : j < 32) (hi : i = nI j) (hdg : decode cc pc = .ok (.iastore, 1)) (kk : ∀ (H1 : Heap) (locs1 : List Loc), va_P D vwCl (wM K g (ms_n u (upd (m_n u) j x))) H1 → va_S (fr L sz) s.heap H1 locs1 → W p l e R s m args below meth c H1 locs1 cells slots Q (F0 m (pc + 1) ls rest)) : W p l e R s m args below meth c H locs cells slots Q (F0 m pc ls (.int x :: .int i :: .ref (g 10) :: rest)) := by
  refine va_iast S.1 S.2.1 hE.1 hP (wM_D hg) hS 10 0 rfl rfl (vin hj (by decide) hi) hdg (fun H1 locs1 hP1 hD1 hS1 => ?_)
  rw [vcl hj (by decide) hi] at hP1
  exact kk H1 locs1 hP1 hS1
theorem lM_mp (S : CallFix p m c cc nL s args Ts own) (hE : ev D K A s) {u : MU} (hP : va_P D vwCl (wM K g u) H) {f : AI} (hf : m_mp u = f) (hj : j < 4) (hi : i = nI j) (hdg : decode cc pc = .ok (.baload, 1)) (kk : W p l e R s m args below meth c H locs cells slots Q (F0 m (pc + 1) ls (.int (f j) :: rest))) : W p l e R s m args below meth c H locs cells slots Q (F0 m pc ls (.int i :: .ref (g 11) :: rest)) := by
  subst hf
  refine va_zald S.1 S.2.1 hE.1 hP 11 2 rfl rfl (vin hj (by decide) hi) hdg ?_
  rw [vcl hj (by decide) hi]
  exact kk
theorem sM_mp (S : CallFix p m c cc nL s args Ts own) (hE : ev D K A s) {u : MU} (hP : va_P D vwCl (wM K g u) H) {sz : Nat} {x : Int32} (hb : vp_nar .boolean x = x) (hg : gd L g 14) (hS : va_S (fr L sz) s.heap H locs) (hj : j < 4) (hi : i = nI j) (hdg : decode cc pc = .ok (.bastore, 1)) (kk : ∀ (H1 : Heap) (locs1 : List Loc), va_P D vwCl (wM K g (ms_mp u (upd (m_mp u) j x))) H1 → va_S (fr L sz) s.heap H1 locs1 → W p l e R s m args below meth c H1 locs1 cells slots Q (F0 m (pc + 1) ls rest)) : W p l e R s m args below meth c H locs cells slots Q (F0 m pc ls (.int x :: .int i :: .ref (g 11) :: rest)) := by
  refine va_zast S.1 S.2.1 hE.1 hP (wM_D hg) hS 11 2 rfl rfl (vin hj (by decide) hi) hdg (fun H1 locs1 hP1 hD1 hS1 => ?_)
  rw [vcl hj (by decide) hi, hb] at hP1
  exact kk H1 locs1 hP1 hS1
theorem lM_en (S : CallFix p m c cc nL s args Ts own) (hE : ev D K A s) {u : MU} (hP : va_P D vwCl (wM K g u) H) {f : AI} (hf : m_en u = f) (hj : j < 384) (hi : i = nI j) (hdg : decode cc pc = .ok (.iaload, 1)) (kk : W p l e R s m args below meth c H locs cells slots Q (F0 m (pc + 1) ls (.int (f j) :: rest))) : W p l e R s m args below meth c H locs cells slots Q (F0 m pc ls (.int i :: .ref (g 12) :: rest)) := by
  subst hf
  refine va_iald S.1 S.2.1 hE.1 hP 12 0 rfl rfl (vin hj (by decide) hi) hdg ?_
  rw [vcl hj (by decide) hi]
  exact kk
theorem sM_en (S : CallFix p m c cc nL s args Ts own) (hE : ev D K A s) {u : MU} (hP : va_P D vwCl (wM K g u) H) {sz : Nat} {x : Int32} (hg : gd L g 14) (hS : va_S (fr L sz) s.heap H locs) (hj : j < 384) (hi : i = nI j) (hdg : decode cc pc = .ok (.iastore, 1)) (kk : ∀ (H1 : Heap) (locs1 : List Loc), va_P D vwCl (wM K g (ms_en u (upd (m_en u) j x))) H1 → va_S (fr L sz) s.heap H1 locs1 → W p l e R s m args below meth c H1 locs1 cells slots Q (F0 m (pc + 1) ls rest)) : W p l e R s m args below meth c H locs cells slots Q (F0 m pc ls (.int x :: .int i :: .ref (g 12) :: rest)) := by
  refine va_iast S.1 S.2.1 hE.1 hP (wM_D hg) hS 12 0 rfl rfl (vin hj (by decide) hi) hdg (fun H1 locs1 hP1 hD1 hS1 => ?_)
  rw [vcl hj (by decide) hi] at hP1
  exact kk H1 locs1 hP1 hS1
theorem lM_ec (S : CallFix p m c cc nL s args Ts own) (hE : ev D K A s) {u : MU} (hP : va_P D vwCl (wM K g u) H) {f : AI} (hf : m_ec u = f) (hj : j < 6) (hi : i = nI j) (hdg : decode cc pc = .ok (.iaload, 1)) (kk : W p l e R s m args below meth c H locs cells slots Q (F0 m (pc + 1) ls (.int (f j) :: rest))) : W p l e R s m args below meth c H locs cells slots Q (F0 m pc ls (.int i :: .ref (g 13) :: rest)) := by
  subst hf
  refine va_iald S.1 S.2.1 hE.1 hP 13 0 rfl rfl (vin hj (by decide) hi) hdg ?_
  rw [vcl hj (by decide) hi]
  exact kk
theorem sM_ec (S : CallFix p m c cc nL s args Ts own) (hE : ev D K A s) {u : MU} (hP : va_P D vwCl (wM K g u) H) {sz : Nat} {x : Int32} (hg : gd L g 14) (hS : va_S (fr L sz) s.heap H locs) (hj : j < 6) (hi : i = nI j) (hdg : decode cc pc = .ok (.iastore, 1)) (kk : ∀ (H1 : Heap) (locs1 : List Loc), va_P D vwCl (wM K g (ms_ec u (upd (m_ec u) j x))) H1 → va_S (fr L sz) s.heap H1 locs1 → W p l e R s m args below meth c H1 locs1 cells slots Q (F0 m (pc + 1) ls rest)) : W p l e R s m args below meth c H locs cells slots Q (F0 m pc ls (.int x :: .int i :: .ref (g 13) :: rest)) := by
  refine va_iast S.1 S.2.1 hE.1 hP (wM_D hg) hS 13 0 rfl rfl (vin hj (by decide) hi) hdg (fun H1 locs1 hP1 hD1 hS1 => ?_)
  rw [vcl hj (by decide) hi] at hP1
  exact kk H1 locs1 hP1 hS1
theorem lC_places (S : CallFix p m c cc nL s args Ts own) (hE : ev D K A s) {u : CU} (hP : va_P D vwCl (wC K g u) H) (hj : j < 6) (hi : i = nI j) (hdg : decode cc pc = .ok (.aaload, 1)) (kk : W p l e R s m args below meth c H locs cells slots Q (F0 m (pc + 1) ls (.ref (g (19 + j)) :: rest))) : W p l e R s m args below meth c H locs cells slots Q (F0 m pc ls (.int i :: .ref (g 17) :: rest)) := by
  have hin : vp_in i 6 := vin hj (by decide) hi
  have hcl := vcl hj (by decide) hi
  have hlt : i.toNatClampNeg < 6 := by rw [hcl]; exact hj
  have hq : (wC K g u)[17]? = some (g 17, .inl (K 3, 6, .inr (.inr (.inr (.inr (fun i => if i < 6 then some (g (19 + i)) else none)))))) := rfl
  refine W.aald (v := va_rf (if i.toNatClampNeg < 6 then some (g (19 + i.toNatClampNeg)) else none)) (ty := .array .int) S.1 S.2.1 (hP 17 _ hq) ((hE.1.2 3 _ rfl).1 6 (fun j => va_rf (if j < 6 then some (g (19 + j)) else none))) rfl (fun q => by cases q) (by show ¬ (i < 0 ∨ (arrV _ _ _).slots.size ≤ _); rw [arrV_size]; exact hin) (by show (arrV _ _ _).slots[_]? = _; rw [arrV_read _ _ hlt]) rfl rfl hdg ?_
  rw [if_pos hlt, hcl]
  exact kk
theorem wC_pl {u : CU} {k : Nat} (hk : k < 6) : (wC K g u)[19 + k]? = some (g (19 + k), .inl (K 0, 32, .inl (c_pl u k))) := by
  rcases (show k = 0 ∨ k = 1 ∨ k = 2 ∨ k = 3 ∨ k = 4 ∨ k = 5 by omega) with h | h | h | h | h | h <;> subst h <;> rfl
theorem wC_spl {u : CU} {k : Nat} (hk : k < 6) (f : AI) : (wC K g u).set (19 + k) (g (19 + k), .inl (K 0, 32, .inl f)) = wC K g (s_pl u (va_up (c_pl u) k f)) := by
  rcases (show k = 0 ∨ k = 1 ∨ k = 2 ∨ k = 3 ∨ k = 4 ∨ k = 5 by omega) with h | h | h | h | h | h <;> subst h <;> rfl
theorem lC_pl (S : CallFix p m c cc nL s args Ts own) (hE : ev D K A s) {u : CU} (hP : va_P D vwCl (wC K g u) H) {k : Nat} {f : AI} (hk : k < 6) (hf : c_pl u k = f) (hj : j < 32) (hi : i = nI j) (hdg : decode cc pc = .ok (.iaload, 1)) (kk : W p l e R s m args below meth c H locs cells slots Q (F0 m (pc + 1) ls (.int (f j) :: rest))) : W p l e R s m args below meth c H locs cells slots Q (F0 m pc ls (.int i :: .ref (g (19 + k)) :: rest)) := by
  subst hf
  refine va_iald S.1 S.2.1 hE.1 hP (19 + k) 0 (wC_pl hk) rfl (vin hj (by decide) hi) hdg ?_
  rw [vcl hj (by decide) hi]
  exact kk
theorem sC_pl (S : CallFix p m c cc nL s args Ts own) (hE : ev D K A s) {u : CU} (hP : va_P D vwCl (wC K g u) H) {sz : Nat} {x : Int32} {k : Nat} (hg : gd L g 29) (hS : va_S (fr L sz) s.heap H locs) (hk : k < 6) (hj : j < 32) (hi : i = nI j) (hdg : decode cc pc = .ok (.iastore, 1)) (kk : ∀ (H1 : Heap) (locs1 : List Loc), va_P D vwCl (wC K g (s_pl u (va_up (c_pl u) k (upd (c_pl u k) j x)))) H1 → va_S (fr L sz) s.heap H1 locs1 → W p l e R s m args below meth c H1 locs1 cells slots Q (F0 m (pc + 1) ls rest)) : W p l e R s m args below meth c H locs cells slots Q (F0 m pc ls (.int x :: .int i :: .ref (g (19 + k)) :: rest)) := by
  refine va_iast S.1 S.2.1 hE.1 hP (wC_D hg) hS (19 + k) 0 (wC_pl hk) rfl (vin hj (by decide) hi) hdg (fun H1 locs1 hP1 hD1 hS1 => ?_)
  rw [vcl hj (by decide) hi, wC_spl hk] at hP1
  exact kk H1 locs1 hP1 hS1
end ROWS
end
section
/-! ===== truth values as ints, rows that name what stands on top, rows of a test of a truth value ===== -/
noncomputable def fb (q : Prop) : Int32 := @ite _ q (Classical.propDecidable q) 1 0
theorem fb_t {q : Prop} (h : q) : fb q = 1 := by unfold fb; exact if_pos h
theorem fb_f {q : Prop} (h : ¬ q) : fb q = 0 := by unfold fb; exact if_neg h
theorem t_fb {q : Prop} (h : q) : 1 = fb q := (fb_t h).symm
theorem f_fb {q : Prop} (h : ¬ q) : 0 = fb q := (fb_f h).symm
theorem fb_c {q r : Prop} (h : q ↔ r) : fb q = fb r := by rw [propext h]
theorem fb_z {q : Prop} : fb q = 0 ↔ ¬ q := by
  by_cases h : q
  · rw [fb_t h]; exact ⟨fun k => absurd k (by decide), fun k => absurd h k⟩
  · rw [fb_f h]; exact ⟨fun _ => h, fun _ => rfl⟩
theorem fb_e {q r : Prop} (h : fb q = fb r) : q ↔ r := by
  by_cases hq : q <;> by_cases hr : r
  · exact ⟨fun _ => hr, fun _ => hq⟩
  · rw [fb_t hq, fb_f hr] at h; exact absurd h (by decide)
  · rw [fb_f hq, fb_t hr] at h; exact absurd h (by decide)
  · exact ⟨fun k => absurd k hq, fun k => absurd k hr⟩
theorem fb_nar {q : Prop} : narrow .boolean (.int (fb q)) = .int (fb q) := by
  by_cases h : q
  · rw [fb_t h]; rfl
  · rw [fb_f h]; rfl
theorem fb_vp {q : Prop} : vp_nar .boolean (fb q) = fb q := by
  by_cases h : q
  · rw [fb_t h]; rfl
  · rw [fb_f h]; rfl
theorem i_lt (a b : Int32) : a < b ↔ a.toInt < b.toInt := Int32.lt_iff_toInt_lt
theorem i_le (a b : Int32) : a ≤ b ↔ a.toInt ≤ b.toInt := Int32.le_iff_toInt_le
theorem i_eq (a b : Int32) : a = b ↔ a.toInt = b.toInt := ⟨fun h => by rw [h], fun h => Int32.toInt_inj.mp h⟩
theorem i_nlt {a b : Int32} (h : ¬ a < b) : b ≤ a := by rw [i_lt] at h; rw [i_le]; omega
theorem i_nle {a b : Int32} (h : ¬ a ≤ b) : b < a := by rw [i_le] at h; rw [i_lt]; omega
theorem i_ltn {a b : Int32} (h : a < b) : ¬ b ≤ a := by rw [i_lt] at h; rw [i_le]; omega
theorem i_len {a b : Int32} (h : a ≤ b) : ¬ b < a := by rw [i_le] at h; rw [i_lt]; omega
theorem nlt_i {a b : Nat} (ha : a < 2 ^ 31) (hb : b < 2 ^ 31) (h : ¬ nI b ≤ nI a) : a < b := by
  rw [nI_leI hb ha] at h; omega
theorem nge_i {a b : Nat} (ha : a < 2 ^ 31) (hb : b < 2 ^ 31) (h : nI b ≤ nI a) : b ≤ a := (nI_leI hb ha).mp h
theorem nltI {a b : Nat} (ha : a < 2 ^ 31) (hb : b < 2 ^ 31) (h : nI a < nI b) : a < b := (nI_ltI ha hb).mp h
theorem nnltI {a b : Nat} (ha : a < 2 ^ 31) (hb : b < 2 ^ 31) (h : ¬ nI a < nI b) : b ≤ a := by
  rw [nI_ltI ha hb] at h; omega
/-- an int between 0 and N is one of the first N numbers -/
theorem nI_rng {x : Int32} {N : Nat} (hN : N < 2 ^ 31) (h0 : ¬ x < 0) (h1 : ¬ nI N ≤ x) : ∃ j : Nat, j < N ∧ x = nI j := by
  obtain ⟨j, hj, rfl⟩ := nI_of h0
  exact ⟨j, nlt_i hj hN h1, rfl⟩
theorem nI_m1 (n : Nat) (h : n < 2 ^ 31) : nI n ≠ -1 := by
  intro k
  have := congrArg Int32.toInt k
  rw [nI_toInt h] at this
  have e : (-1 : Int32).toInt = -1 := rfl
  omega
theorem ng_xIS : ∀ q ∈ (vx_atS RX4 53 xIS ["java/lang/RuntimeException", "java/lang/Exception"]).filter (fun q => !goodWord q), q ∈ [Cond.castable xIS xIS, Cond.declares (Bundle.initS "java/lang/RuntimeException"), Cond.declares (Bundle.initS "java/lang/Exception"), Cond.declares (Bundle.initS "java/lang/Throwable")] := by decide +kernel
theorem ng_xIA : ∀ q ∈ (vx_atS RX4 87 xIA ["java/lang/RuntimeException", "java/lang/Exception"]).filter (fun q => !goodWord q), q ∈ [Cond.castable xIA xIA, Cond.declares (Bundle.initS "java/lang/RuntimeException"), Cond.declares (Bundle.initS "java/lang/Exception"), Cond.declares (Bundle.initS "java/lang/Throwable")] := by decide +kernel
theorem ng_xIO : ∀ q ∈ (vx_atS RX4 237 xIO ["java/lang/RuntimeException", "java/lang/Exception"]).filter (fun q => !goodWord q), q ∈ [Cond.castable xIO xIO, Cond.declares (Bundle.initS "java/lang/RuntimeException"), Cond.declares (Bundle.initS "java/lang/Exception"), Cond.declares (Bundle.initS "java/lang/Throwable")] := by decide +kernel
theorem gd_xIS {ik : Nat} : ∀ q ∈ Cond.classLink RX4 ik xIS :: Cond.initialized xIS :: vx_atS RX4 53 xIS ["java/lang/RuntimeException", "java/lang/Exception"], vx_ot q = true := List.forall_mem_cons.mpr ⟨rfl, List.forall_mem_cons.mpr ⟨rfl, by decide +kernel⟩⟩
theorem gd_xIA {ik : Nat} : ∀ q ∈ Cond.classLink RX4 ik xIA :: Cond.initialized xIA :: vx_atS RX4 87 xIA ["java/lang/RuntimeException", "java/lang/Exception"], vx_ot q = true := List.forall_mem_cons.mpr ⟨rfl, List.forall_mem_cons.mpr ⟨rfl, by decide +kernel⟩⟩
theorem gd_xIO {ik : Nat} : ∀ q ∈ Cond.classLink RX4 ik xIO :: Cond.initialized xIO :: vx_atS RX4 237 xIO ["java/lang/RuntimeException", "java/lang/Exception"], vx_ot q = true := List.forall_mem_cons.mpr ⟨rfl, List.forall_mem_cons.mpr ⟨rfl, by decide +kernel⟩⟩
theorem ft_xIS : Bundle.fit xIS = true := by decide +kernel
theorem ft_xIA : Bundle.fit xIA = true := by decide +kernel
theorem ft_xIO : Bundle.fit xIO = true := by decide +kernel
section PRIMS
variable {p : Program} {l : Launch} {e : Env} {R : Room} {s : State} {m : MethodId} {args : Array Value} {below : List Frame} {meth : Method} {c : Code} {H : Heap} {locs : List Loc} {cells slots : Nat} {Q : State → Prop}
variable {cc : ByteArray} {pc : Nat} {ls : Array Slot} {rest : List Value}
theorem tpi {x y : Int32} (h : x = y) (k : W p l e R s m args below meth c H locs cells slots Q (F0 m pc ls (.int y :: rest))) : W p l e R s m args below meth c H locs cells slots Q (F0 m pc ls (.int x :: rest)) := by rw [h]; exact k
theorem tpl {x y : Int64} (h : x = y) (k : W p l e R s m args below meth c H locs cells slots Q (F0 m pc ls (.long y :: rest))) : W p l e R s m args below meth c H locs cells slots Q (F0 m pc ls (.long x :: rest)) := by rw [h]; exact k
theorem bzeq (hx : p.tables.exec = Jvm.exec) (hb : c.code = cc) {q : Prop} {off : Int} {tgt : Nat} (hdg : decode cc pc = .ok (.ifCond .eq off, 3)) (ht : (pc : Int) + off = (tgt : Int))
    (kt : ¬ q → W p l e R s m args below meth c H locs cells slots Q (F0 m tgt ls rest)) (kf : q → W p l e R s m args below meth c H locs cells slots Q (F0 m (pc + 3) ls rest)) : W p l e R s m args below meth c H locs cells slots Q (F0 m pc ls (.int (fb q) :: rest)) :=
  lv_if_eq hx hb hdg ht (fun h => kt (fb_z.mp h)) (fun h => kf (Classical.byContradiction fun k => h (fb_z.mpr k)))
theorem bzne (hx : p.tables.exec = Jvm.exec) (hb : c.code = cc) {q : Prop} {off : Int} {tgt : Nat} (hdg : decode cc pc = .ok (.ifCond .ne off, 3)) (ht : (pc : Int) + off = (tgt : Int))
    (kt : q → W p l e R s m args below meth c H locs cells slots Q (F0 m tgt ls rest)) (kf : ¬ q → W p l e R s m args below meth c H locs cells slots Q (F0 m (pc + 3) ls rest)) : W p l e R s m args below meth c H locs cells slots Q (F0 m pc ls (.int (fb q) :: rest)) :=
  lv_if_ne hx hb hdg ht (fun h => kt (Classical.byContradiction fun k => h (fb_z.mpr k))) (fun h => kf (fb_z.mp h))
theorem bleq (hx : p.tables.exec = Jvm.exec) (hb : c.code = cc) {x y : Int64} {off : Int} {tgt : Nat} (hdg : decode cc pc = .ok (.ifCond .eq off, 3)) (ht : (pc : Int) + off = (tgt : Int))
    (kt : x = y → W p l e R s m args below meth c H locs cells slots Q (F0 m tgt ls rest)) (kf : ¬ x = y → W p l e R s m args below meth c H locs cells slots Q (F0 m (pc + 3) ls rest)) : W p l e R s m args below meth c H locs cells slots Q (F0 m pc ls (.int (lg_cmp x y) :: rest)) :=
  lv_if_eq hx hb hdg ht (fun h => kt ((lg_cmp_eq x y).mp h)) (fun h => kf (fun k => h ((lg_cmp_eq x y).mpr k)))
theorem blne (hx : p.tables.exec = Jvm.exec) (hb : c.code = cc) {x y : Int64} {off : Int} {tgt : Nat} (hdg : decode cc pc = .ok (.ifCond .ne off, 3)) (ht : (pc : Int) + off = (tgt : Int))
    (kt : ¬ x = y → W p l e R s m args below meth c H locs cells slots Q (F0 m tgt ls rest)) (kf : x = y → W p l e R s m args below meth c H locs cells slots Q (F0 m (pc + 3) ls rest)) : W p l e R s m args below meth c H locs cells slots Q (F0 m pc ls (.int (lg_cmp x y) :: rest)) :=
  lv_if_ne hx hb hdg ht (fun h => kt (fun k => h ((lg_cmp_eq x y).mpr k))) (fun h => kf ((lg_cmp_eq x y).mp h))
end PRIMS
end

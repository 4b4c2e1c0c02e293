/-! ===== the law: its cells, its calls ===== -/
def A0 (s : State) : Nat → Prop := fr (fun _ => False) s.heap.size
theorem A0_i {s : State} {q : Nat} : A0 s q ↔ s.heap.size ≤ q := ⟨fun h => h.elim False.elim id, Or.inr⟩
/-- what holds all through the law's run -/
def LC (p : Program) (l : Launch) (s : State) (m : MethodId) (meth : Method) (c : Code) (b L : Nat) (xs : Nat → Int32) (D : va_G) (K : Nat → ClassId) : Prop :=
  (p.tables.exec = Jvm.exec ∧ c.code = code ∧ c.maxLocals = 17 ∧ s.vm.findClass RL = some m.cls ∧ (∀ w ∈ wsL_law, w.before #[.ref b] s = true)) ∧ (va_X b L xs s s.heap ∧ b < s.heap.size ∧ L ≤ 260) ∧ ev D K (A0 s) s ∧ l.stackTraces = false
abbrev oW (K : Nat → ClassId) (o n : Nat) (f : AI) : va_W := [(o, .inl (K 0, n, .inl f))]
/-- the object and the two rows of ints lie apart, all of them new -/
def LD (s : State) (g : Nat → Nat) (o1 o2 : Nat) : Prop :=
  (gd (fun q => s.heap.size ≤ q) g 29 ∧ s.heap.size ≤ o1 ∧ s.heap.size ≤ o2) ∧ o1 ≠ o2 ∧ ∀ i, i < 29 → g i ≠ o1 ∧ g i ≠ o2
def LI (D : va_G) (K : Nat → ClassId) (g : Nat → Nat) (o1 o2 : Nat) (u : CU) (f h : AI) (H : Heap) : Prop :=
  va_P D vwCl (wC K g u) H ∧ va_P D vwCl (oW K o1 6 f) H ∧ va_P D vwCl (oW K o2 36 h) H
theorem wC_a {K : Nat → ClassId} {g : Nat → Nat} {u : CU} {k : Nat} {x : Nat × va_E} (hk : (wC K g u)[k]? = some x) : ∃ i, i < 29 ∧ x.1 = g i := by
  have h1 : (List.map (·.1) (wC K g u))[k]? = some x.1 := by rw [List.getElem?_map, hk]; rfl
  have h2 : List.map (·.1) (wC K g u) = (List.range 29).map g := rfl
  rw [h2, List.getElem?_map] at h1
  by_cases h : k < 29
  · rw [List.getElem?_range h] at h1
    exact ⟨k, h, (Option.some.inj h1).symm⟩
  · rw [List.getElem?_eq_none (by rw [List.length_range]; omega)] at h1
    cases h1
theorem w1_a {o : Nat} {e : va_E} {k : Nat} {x : Nat × va_E} (hk : [(o, e)][k]? = some x) : x.1 = o := by
  cases k with
  | zero => cases hk; rfl
  | succ k => cases hk
theorem keepW {D : va_G} {w : va_W} {B : Nat → Prop} {H H1 : Heap} (hP : va_P D vwCl w H) (hk : ∀ q, q < H.size → ¬ fr B H.size q → H1[q]? = H[q]?) (hB : ∀ (k : Nat) (x : Nat × va_E), w[k]? = some x → ¬ B x.1) : va_P D vwCl w H1 :=
  hP.kept (fun k x hx => hk x.1 ((hP k x hx).lt) (fun h => h.elim (hB k x hx) (fun h => absurd ((hP k x hx).lt) (Nat.not_lt.mpr h))))
theorem LD_D {s : State} {g : Nat → Nat} {o1 o2 : Nat} {K : Nat → ClassId} {u : CU} {f h : AI} (J : LD s g o1 o2) : va_D (A0 s) (wC K g u ++ (oW K o1 6 f ++ oW K o2 36 h)) := by
  obtain ⟨⟨J1, J2, J3⟩, J4, J5⟩ := J
  have h1 : va_D (A0 s) (wC K g u) := by
    have z := wC_D (sz := s.heap.size) (K := K) (u := u) J1
    exact ⟨z.1, fun k x hk => A0_i.mpr ((z.2 k x hk).elim id id)⟩
  refine h1.app ⟨fun i j x y hi hj e => ?_, fun k x hk => ?_⟩ (fun i j x y hi hj => ?_)
  · match i, j, hi, hj with
    | 0, 0, hi, hj => rfl
    | 1, 1, hi, hj => rfl
    | 0, 1, hi, hj => cases hi; cases hj; exact absurd e J4
    | 1, 0, hi, hj => cases hi; cases hj; exact absurd e.symm J4
    | i + 2, _, hi, _ => cases hi
    | _, j + 2, _, hj => cases hj
  · match k, hk with
    | 0, hk => cases hk; exact A0_i.mpr J2
    | 1, hk => cases hk; exact A0_i.mpr J3
    | k + 2, hk => cases hk
  · obtain ⟨k, hk, ek⟩ := wC_a hi
    rw [ek]
    match j, hj with
    | 0, hj => cases hj; exact (J5 k hk).1
    | 1, hj => cases hj; exact (J5 k hk).2
    | j + 2, hj => cases hj
theorem lk62 : Cond.constant RL 62 (1770017) ∈ wsL_law := by decide +kernel
theorem lk63 : Cond.constant RL 63 (59009) ∈ wsL_law := by decide +kernel
theorem lk64 : Cond.constant RL 64 (268435455) ∈ wsL_law := by decide +kernel
theorem lk77 : Cond.constant RL 77 (100000) ∈ wsL_law := by decide +kernel
theorem lk38 : Cond.constantFloat RL 38 (1090519040) ∈ wsL_law := by decide +kernel
section LAWC
variable {p : Program} {l : Launch} {e : Env} {R : Room} {s : State} {m : MethodId} {below : List Frame} {meth : Method} {c : Code} {H : Heap} {locs : List Loc} {cells slots : Nat} {Q : State → Prop}
variable {b L pc n index maxL : Nat} {xs : Nat → Int32} {ls : Array Slot} {D : va_G} {K : Nat → ClassId} {g : Nat → Nat} {o1 o2 : Nat} {u u' : CU} {f h : AI} {y : MethodName} {ws : List Cond} {rm : Room} {As rest st0 : List Value} {bytes : ByteArray}
/-- a number of the script -/
theorem sld (C : LC p l s m meth c b L xs D K) (hS : va_S (A0 s) s.heap H locs) {j : Nat} (hj : j < L) {i : Int32} (hi : i = nI j) (hdg : decode code pc = .ok (.iaload, 1)) (kk : W p l e R s m #[.ref b] below meth c H locs cells slots Q (F0 m (pc + 1) ls (.int (xs j) :: rest))) : W p l e R s m #[.ref b] below meth c H locs cells slots Q (F0 m pc ls (.int i :: .ref b :: rest)) := by
  obtain ⟨⟨hx, hb, -⟩, ⟨hX, hbl, hL⟩, -⟩ := C
  refine va_sld hx hb hX hbl (fun h => absurd hbl (Nat.not_lt.mpr (A0_i.mp h))) hS (vin hj (by omega) hi) hdg ?_
  rw [vcl hj (by omega) hi]
  exact kk
theorem sln (C : LC p l s m meth c b L xs D K) (hS : va_S (A0 s) s.heap H locs) (hdg : decode code pc = .ok (.arraylength, 1)) (kk : W p l e R s m #[.ref b] below meth c H locs cells slots Q (F0 m (pc + 1) ls (.int (nI L) :: rest))) : W p l e R s m #[.ref b] below meth c H locs cells slots Q (F0 m pc ls (.ref b :: rest)) := by
  obtain ⟨⟨hx, hb, -⟩, ⟨hX, hbl, hL⟩, -⟩ := C
  refine va_slen hx hb hX hbl (fun h => absurd hbl (Nat.not_lt.mpr (A0_i.mp h))) hS hdg ?_
  exact tpi (y := nI L) rfl kk
/-- who, what: read and written -/
theorem wld (C : LC p l s m meth c b L xs D K) (I : LI D K g o1 o2 u f h H) {j : Nat} (hj : j < 6) {i : Int32} (hi : i = nI j) (hdg : decode code pc = .ok (.iaload, 1)) (kk : W p l e R s m #[.ref b] below meth c H locs cells slots Q (F0 m (pc + 1) ls (.int (f j) :: rest))) : W p l e R s m #[.ref b] below meth c H locs cells slots Q (F0 m pc ls (.int i :: .ref o1 :: rest)) := by
  refine va_iald C.1.1 C.1.2.1 C.2.2.1.1 I.2.1 0 0 rfl rfl (vin hj (by decide) hi) hdg ?_
  rw [vcl hj (by decide) hi]
  exact kk
theorem hld (C : LC p l s m meth c b L xs D K) (I : LI D K g o1 o2 u f h H) {j : Nat} (hj : j < 36) {i : Int32} (hi : i = nI j) (hdg : decode code pc = .ok (.iaload, 1)) (kk : W p l e R s m #[.ref b] below meth c H locs cells slots Q (F0 m (pc + 1) ls (.int (h j) :: rest))) : W p l e R s m #[.ref b] below meth c H locs cells slots Q (F0 m pc ls (.int i :: .ref o2 :: rest)) := by
  refine va_iald C.1.1 C.1.2.1 C.2.2.1.1 I.2.2 0 0 rfl rfl (vin hj (by decide) hi) hdg ?_
  rw [vcl hj (by decide) hi]
  exact kk
theorem wst (C : LC p l s m meth c b L xs D K) (J : LD s g o1 o2) (I : LI D K g o1 o2 u f h H) (hS : va_S (A0 s) s.heap H locs) {j : Nat} (hj : j < 6) {i x : Int32} (hi : i = nI j) (hdg : decode code pc = .ok (.iastore, 1)) (kk : ∀ (H1 : Heap) (locs1 : List Loc), LI D K g o1 o2 u (upd f j x) h H1 → va_S (A0 s) s.heap H1 locs1 → W p l e R s m #[.ref b] below meth c H1 locs1 cells slots Q (F0 m (pc + 1) ls rest)) : W p l e R s m #[.ref b] below meth c H locs cells slots Q (F0 m pc ls (.int x :: .int i :: .ref o1 :: rest)) := by
  have hP := I.1.app (I.2.1.app I.2.2)
  refine va_iast C.1.1 C.1.2.1 C.2.2.1.1 hP (LD_D J) hS 29 0 rfl rfl (vin hj (by decide) hi) hdg (fun H1 locs1 hP1 hD1 hS1 => ?_)
  rw [vcl hj (by decide) hi] at hP1
  have hP1 : va_P D vwCl (wC K g u ++ (oW K o1 6 (upd f j x) ++ oW K o2 36 h)) H1 := hP1
  exact kk H1 locs1 ⟨hP1.sub (List.range 29) rfl, hP1.sub [29] rfl, hP1.sub [30] rfl⟩ hS1
theorem hst (C : LC p l s m meth c b L xs D K) (J : LD s g o1 o2) (I : LI D K g o1 o2 u f h H) (hS : va_S (A0 s) s.heap H locs) {j : Nat} (hj : j < 36) {i x : Int32} (hi : i = nI j) (hdg : decode code pc = .ok (.iastore, 1)) (kk : ∀ (H1 : Heap) (locs1 : List Loc), LI D K g o1 o2 u f (upd h j x) H1 → va_S (A0 s) s.heap H1 locs1 → W p l e R s m #[.ref b] below meth c H1 locs1 cells slots Q (F0 m (pc + 1) ls rest)) : W p l e R s m #[.ref b] below meth c H locs cells slots Q (F0 m pc ls (.int x :: .int i :: .ref o2 :: rest)) := by
  have hP := I.1.app (I.2.1.app I.2.2)
  refine va_iast C.1.1 C.1.2.1 C.2.2.1.1 hP (LD_D J) hS 30 0 rfl rfl (vin hj (by decide) hi) hdg (fun H1 locs1 hP1 hD1 hS1 => ?_)
  rw [vcl hj (by decide) hi] at hP1
  have hP1 : va_P D vwCl (wC K g u ++ (oW K o1 6 f ++ oW K o2 36 (upd h j x))) H1 := hP1
  exact kk H1 locs1 ⟨hP1.sub (List.range 29) rfl, hP1.sub [29] rfl, hP1.sub [30] rfl⟩ hS1
theorem LI_c (J : LD s g o1 o2) (I : LI D K g o1 o2 u f h H) {H1 : Heap} (hP : va_P D vwCl (wC K g u') H1) (hk : ∀ q, q < H.size → ¬ fr (Lg g) H.size q → H1[q]? = H[q]?) : LI D K g o1 o2 u' f h H1 := by
  obtain ⟨I1, I2, I3⟩ := I
  obtain ⟨⟨J1, J2, J3⟩, J4, J5⟩ := J
  refine ⟨hP, keepW I2 hk (fun k x hx h => ?_), keepW I3 hk (fun k x hx h => ?_)⟩
  · obtain ⟨i, hi, ei⟩ := h
    exact (J5 i hi).1 (by rw [← ei, w1_a hx])
  · obtain ⟨i, hi, ei⟩ := h
    exact (J5 i hi).2 (by rw [← ei, w1_a hx])
theorem LA (J : LD s g o1 o2) (hS : va_S (A0 s) s.heap H locs) : ∀ q, fr (Lg g) H.size q → A0 s q := fun q h => h.elim (fun ⟨i, hi, e9⟩ => A0_i.mpr (by rw [e9]; exact J.1.1.2 i hi)) (fun h => A0_i.mpr (Nat.le_trans hS.1 h))
/-- a call of the class -/
theorem lcI {r : Int32} {ty : FieldType} (C : LC p l s m meth c b L xs D K) (J : LD s g o1 o2) (I : LI D K g o1 o2 u f h H) (hS : va_S (A0 s) s.heap H locs) (hC : CI l y ws rm D K (Lg g) (.ref (g 0) :: As) (wC K g u) (wC K g u') r) (cw : CallW R s #[.ref b] RL RX4 index y bytes maxL (some ty) ws rm rm.cells rm.slots n) (hz0 : rm.cells = 0) (hz1 : rm.slots = 0) (hn : As.length = n) (hsize : ls.size = 17) (hst : st0 = As.reverse ++ .ref (g 0) :: rest) (hW : (rest.map fun v => v.category).sum ≤ 8) (hdg : decode code pc = .ok (.invokevirtual index, 3)) (hf : cells ≤ R.cells ∧ slots ≤ R.slots)
    (kk : ∀ (H1 : Heap) (locs1 : List Loc), LI D K g o1 o2 u' f h H1 → va_S (A0 s) s.heap H1 locs1 → W p l e R s m #[.ref b] below meth c H1 locs1 cells slots Q (F0 m (pc + 3) ls (.int r :: rest))) : W p l e R s m #[.ref b] below meth c H locs cells slots Q (F0 m pc ls st0) :=
  kiV (As := As) (rest := rest) C.1 hC cw hz0 hz1 0 rfl rfl C.2.2.1 I.1 hS (LA J hS) hn hsize hst hW hdg hf (fun H1 locs1 hP hk _ hS1 => kk H1 locs1 (LI_c J I hP hk) hS1)
theorem lcF {r : UInt32} {ty : FieldType} (C : LC p l s m meth c b L xs D K) (J : LD s g o1 o2) (I : LI D K g o1 o2 u f h H) (hS : va_S (A0 s) s.heap H locs) (hC : CF l y ws rm D K (Lg g) (.ref (g 0) :: As) (wC K g u) (wC K g u') r) (cw : CallW R s #[.ref b] RL RX4 index y bytes maxL (some ty) ws rm rm.cells rm.slots n) (hz0 : rm.cells = 0) (hz1 : rm.slots = 0) (hn : As.length = n) (hsize : ls.size = 17) (hst : st0 = As.reverse ++ .ref (g 0) :: rest) (hW : (rest.map fun v => v.category).sum ≤ 8) (hdg : decode code pc = .ok (.invokevirtual index, 3)) (hf : cells ≤ R.cells ∧ slots ≤ R.slots)
    (kk : ∀ (H1 : Heap) (locs1 : List Loc), LI D K g o1 o2 u' f h H1 → va_S (A0 s) s.heap H1 locs1 → W p l e R s m #[.ref b] below meth c H1 locs1 cells slots Q (F0 m (pc + 3) ls (.float r :: rest))) : W p l e R s m #[.ref b] below meth c H locs cells slots Q (F0 m pc ls st0) :=
  kfV (As := As) (rest := rest) C.1 hC cw hz0 hz1 0 rfl rfl C.2.2.1 I.1 hS (LA J hS) hn hsize hst hW hdg hf (fun H1 locs1 hP hk _ hS1 => kk H1 locs1 (LI_c J I hP hk) hS1)
/-- a call of the law's own -/
theorem lsI {r : Int32} {ty : FieldType} (C : LC p l s m meth c b L xs D K) (J : LD s g o1 o2) (I : LI D K g o1 o2 u f h H) (hS : va_S (A0 s) s.heap H locs) (hC : CI l y ws rm D K (Lg g) As (wC K g u) (wC K g u') r) (cw : CallB R s #[.ref b] RL index y bytes maxL (some ty) ws rm rm.cells rm.slots n ∧ (Cond.static y).before #[.ref b] s = true) (hz0 : rm.cells = 0) (hz1 : rm.slots = 0) (hn : As.length = n) (hsize : ls.size = 17) (hst : st0 = As.reverse ++ rest) (hW : (rest.map fun v => v.category).sum ≤ 8) (hdg : decode code pc = .ok (.invokestatic index, 3)) (hf : cells ≤ R.cells ∧ slots ≤ R.slots)
    (kk : ∀ (H1 : Heap) (locs1 : List Loc), LI D K g o1 o2 u' f h H1 → va_S (A0 s) s.heap H1 locs1 → W p l e R s m #[.ref b] below meth c H1 locs1 cells slots Q (F0 m (pc + 3) ls (.int r :: rest))) : W p l e R s m #[.ref b] below meth c H locs cells slots Q (F0 m pc ls st0) :=
  kiS (As := As) (rest := rest) C.1 hC cw hz0 hz1 C.2.2.1 I.1 hS (LA J hS) hn hsize hst hW hdg hf (fun H1 locs1 hP hk _ hS1 => kk H1 locs1 (LI_c J I hP hk) hS1)
/-- a call of a wrapper -/
theorem lwI {r : Int32} {hh : List (Nat × Nat × Nat × Nat)} (C : LC p l s m meth c b L xs D K) (J : LD s g o1 o2) (I : LI D K g o1 o2 u f h H) (hS : va_S (A0 s) s.heap H locs) (hC : CI l y ws rm D K (Lg g) As (wC K g u) (wC K g u') r) (cw : vx_CSW R s #[.ref b] RL index y bytes maxL (some .int) hh ws rm rm.cells rm.slots n) (hn : As.length = n) (hsize : ls.size = 17) (hst : st0 = As.reverse ++ rest) (hW : (rest.map fun v => v.category).sum ≤ 8) (hdg : decode code pc = .ok (.invokestatic index, 3)) (hf : cells + rm.cells ≤ R.cells ∧ slots + rm.slots ≤ R.slots)
    (kk : ∀ (H1 : Heap) (locs1 : List Loc), LI D K g o1 o2 u' f h H1 → va_S (A0 s) s.heap H1 locs1 → W p l e R s m #[.ref b] below meth c H1 locs1 (cells + rm.cells) (slots + rm.slots) Q (F0 m (pc + 3) ls (.int r :: rest))) : W p l e R s m #[.ref b] below meth c H locs cells slots Q (F0 m pc ls st0) := by
  refine va_calli (vx_runSW (As := As) (rest := rest) (g := F0 m pc ls st0) C.1 (hC H.size) cw ⟨pre_blind, k_pre C.2.2.1 I.1 hS (LA J hS)⟩ rfl hn hsize hst (lv_room hW) hdg hf) hS (fun q _ h => LA J hS q h) (LA J hS) (fun x u9 t H1 locs1 ht hvm hw hB hz hk hS1 => ?_)
  subst hw
  exact kk H1 locs1 (LI_c J I (by rw [← ht]; exact hB) hk) hS1
end LAWC
theorem and28 (x : Int32) : ∃ t : Nat, t < 268435456 ∧ x &&& 268435455 = nI t := by
  have h : (x &&& 268435455).toBitVec = x.toBitVec &&& 268435455#32 := by rw [Int32.toBitVec_and]; rfl
  have h2 : (x.toBitVec &&& 268435455#32).toNat < 268435456 := by
    rw [BitVec.toNat_and]; exact Nat.lt_of_le_of_lt Nat.and_le_right (by decide)
  refine ⟨(x.toBitVec &&& 268435455#32).toNat, h2, Int32.toBitVec_inj.mp ?_⟩
  rw [h]
  show _ = BitVec.ofNat 32 _
  rw [BitVec.ofNat_toNat, BitVec.setWidth_eq]
theorem shr2 {y : Nat} (h : y < 2 ^ 31) : nI y >>> ((2 : Int32) &&& 31) = nI (y / 4) := pk_shrN h _ 2 (by decide)
theorem shr6 {y : Nat} (h : y < 2 ^ 31) : nI y >>> ((6 : Int32) &&& 31) = nI (y / 64) := pk_shrN h _ 6 (by decide)
theorem shr9 {y : Nat} (h : y < 2 ^ 31) : nI y >>> ((9 : Int32) &&& 31) = nI (y / 512) := pk_shrN h _ 9 (by decide)
theorem and63 {y : Nat} (h : y < 2 ^ 31) : nI y &&& (63 : Int32) = nI (y % 64) := pk_andN (by omega) 6 (by decide)
theorem ib_yes {a r : Nat} (hr : r < 31) : ibP (nI (a % 64)) (nI ((a + 1 + r) % 64)) := by
  have h1 : a % 64 < 64 := Nat.mod_lt _ (by decide)
  have h2 : (a + 1 + r) % 64 < 64 := Nat.mod_lt _ (by decide)
  unfold ibP
  rw [nI_eq (by omega) (by omega), fm_n _ h2 _ h1, show (32 : Int32) = nI 32 from rfl, nI_leI (by omega) (by omega)]
  omega
theorem ib_no {a : Nat} : ¬ ibP (nI a) (nI a) := fun h => h.1 rfl
theorem stI {a : Nat} (h : a < 64) : stP (nI a) := ⟨nI_pos (by omega), (nI_ltI (a := a) (b := 64) (by omega) (by omega)).mpr h⟩
theorem fzI {a : Nat} (h1 : 1 ≤ a) (h2 : a ≤ 27) : fzR (nI a) := by
  refine ⟨?_, ?_⟩
  · rw [show (1 : Int32) = nI 1 from rfl, nI_ltI (by omega) (by omega)]; omega
  · rw [show (27 : Int32) = nI 27 from rfl, nI_leI (by omega) (by omega)]; exact h2
/-- floats of eighths -/
theorem fl_a : ∀ a, a < 9 → ∀ b, b < 9 → vf_n32 (FP.fsub (fdv (a + b)) (fdv b)) := by unfold vf_n32; decide +kernel
theorem fl_c : ∀ a, a < 9 → ∀ b, b < 9 → Op.cmpValue (FP.fcmp (fdv a) (FP.fsub (fdv (a + b)) (fdv b))) .l = 0 := by decide +kernel
theorem upd_same {f : AI} {j : Nat} {x : Int32} (h : f j = x) : upd f j x = f := by
  funext i; unfold upd
  by_cases e : i = j
  · rw [if_pos e, e, h]
  · rw [if_neg e]
theorem m3 {m : Nat} (h : m < 2 ^ 31) : ¬ nI m = -3 := by
  intro z
  have := congrArg Int32.toInt z
  rw [nI_toInt h, show (-3 : Int32).toInt = -3 from by decide] at this
  omega
theorem nI_ds {a b : Nat} (h : a < 2 ^ 31) (hb : 0 < b) (h2 : b < 2 ^ 31) : nI a - nI a / nI b * nI b = nI (a % b) := pk_rem h hb h2

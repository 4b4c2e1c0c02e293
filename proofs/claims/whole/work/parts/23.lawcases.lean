/-! ===== the law: its calls ===== -/
def A0 (s : State) : Nat → Prop := fr (fun _ => False) s.heap.size
theorem A0_i {s : State} {q : Nat} : A0 s q ↔ s.heap.size ≤ q := ⟨fun h => h.elim False.elim id, Or.inr⟩
/-- what holds all through the law's run -/
def LC (p : Program) (l : Launch) (s : State) (m : MethodId) (meth : Method) (c : Code) (b L : Nat) (xs : Nat → Int32) (D : va_G) (K : Nat → ClassId) : Prop :=
  (p.tables.exec = Jvm.exec ∧ c.code = code ∧ c.maxLocals = 8 ∧ s.vm.findClass RL = some m.cls ∧ (∀ w ∈ wsL_law, w.before #[.ref b] s = true)) ∧ (va_X b L xs s s.heap ∧ b < s.heap.size ∧ L ≤ 2048) ∧ ev D K (A0 s) s ∧ ZC s ∧ l.stackTraces = false
def Lm (g : Nat → Nat) : Nat → Prop := fun q => ∃ i, i < 14 ∧ q = g i
def Lo (g : Nat → Nat) (o : Nat) : Nat → Prop := fun q => Lg g q ∨ q = o
theorem gd_Lm {L : Nat → Prop} {g : Nat → Nat} (h : gd L g 14) : gd (Lm g) g 14 := ⟨h.1, fun i hi => ⟨i, hi, rfl⟩⟩
theorem gd_Lo {L : Nat → Prop} {g : Nat → Nat} {o : Nat} (h : gd L g 29) : gd (Lo g o) g 29 := ⟨h.1, fun i hi => Or.inl ⟨i, hi, rfl⟩⟩
/-- the two objects and the two rows of answers lie apart, all of them new -/
def LD (s : State) (gc gm : Nat → Nat) (o1 o2 : Nat) : Prop :=
  (gd (fun q => s.heap.size ≤ q) gc 29 ∧ gd (fun q => s.heap.size ≤ q) gm 14 ∧ s.heap.size ≤ o1 ∧ s.heap.size ≤ o2) ∧ o1 ≠ o2 ∧ (∀ i, i < 29 → gc i ≠ o1 ∧ gc i ≠ o2) ∧ (∀ j, j < 14 → gm j ≠ o1 ∧ gm j ≠ o2) ∧ ∀ i j, i < 29 → j < 14 → gc i ≠ gm j
def LI (D : va_G) (K : Nat → ClassId) (gc gm : Nat → Nat) (o1 o2 : Nat) (u : CU) (v : MU) (f : AL) (fd : Nat → UInt64) (H : Heap) : Prop :=
  va_P D vwCl (wC K gc u) H ∧ va_P D vwCl (wM K gm v) H ∧ va_P D vwCl (oL K o1 f) H ∧ va_P D vwCl (oD K o2 fd) H
theorem wC_a {K : Nat → ClassId} {g : Nat → Nat} {u : CU} {k : Nat} {x : Nat × va_E} (hk : (wC K g u)[k]? = some x) : ∃ i, i < 29 ∧ x.1 = g i := by
  have h1 : (List.map (·.1) (wC K g u))[k]? = some x.1 := by rw [List.getElem?_map, hk]; rfl
  have h2 : List.map (·.1) (wC K g u) = (List.range 29).map g := rfl
  rw [h2, List.getElem?_map] at h1
  by_cases h : k < 29
  · rw [List.getElem?_range h] at h1
    exact ⟨k, h, (Option.some.inj h1).symm⟩
  · rw [List.getElem?_eq_none (by rw [List.length_range]; omega)] at h1
    cases h1
theorem wM_a {K : Nat → ClassId} {g : Nat → Nat} {u : MU} {k : Nat} {x : Nat × va_E} (hk : (wM K g u)[k]? = some x) : ∃ i, i < 14 ∧ x.1 = g i := by
  have h1 : (List.map (·.1) (wM K g u))[k]? = some x.1 := by rw [List.getElem?_map, hk]; rfl
  have h2 : List.map (·.1) (wM K g u) = (List.range 14).map g := rfl
  rw [h2, List.getElem?_map] at h1
  by_cases h : k < 14
  · rw [List.getElem?_range h] at h1
    exact ⟨k, h, (Option.some.inj h1).symm⟩
  · rw [List.getElem?_eq_none (by rw [List.length_range]; omega)] at h1
    cases h1
theorem w1_a {o : Nat} {e : va_E} {k : Nat} {x : Nat × va_E} (hk : [(o, e)][k]? = some x) : x.1 = o := by
  cases k with
  | zero => cases hk; rfl
  | succ k => cases hk
theorem keepW {D : va_G} {w : va_W} {B : Nat → Prop} {H H1 : Heap} (hP : va_P D vwCl w H) (hk : ∀ q, q < H.size → ¬ fr B H.size q → H1[q]? = H[q]?) (hB : ∀ (k : Nat) (x : Nat × va_E), w[k]? = some x → ¬ B x.1) : va_P D vwCl w H1 :=
  hP.kept (fun k x hx => hk x.1 ((hP k x hx).lt) (fun h => h.elim (hB k x hx) (fun h => absurd ((hP k x hx).lt) (Nat.not_lt.mpr h))))
section LAWC
variable {p : Program} {l : Launch} {e : Env} {R : Room} {s : State} {m : MethodId} {below : List Frame} {meth : Method} {c : Code} {H : Heap} {locs : List Loc} {cells slots : Nat} {Q : State → Prop}
variable {b L pc n index maxL : Nat} {xs : Nat → Int32} {ls : Array Slot} {D : va_G} {K : Nat → ClassId} {gc gm : Nat → Nat} {o1 o2 : Nat} {u u' : CU} {v v' : MU} {f f' : AL} {fd fd' : Nat → UInt64} {y : MethodName} {ws : List Cond} {rm : Room} {As rest st0 : List Value} {bytes : ByteArray}
/-- a number of the script -/
theorem sld (C : LC p l s m meth c b L xs D K) (hS : va_S (A0 s) s.heap H locs) {j : Nat} (hj : j < L) {i : Int32} (hi : i = nI j) (hdg : decode code pc = .ok (.iaload, 1)) (kk : W p l e R s m #[.ref b] below meth c H locs cells slots Q (F0 m (pc + 1) ls (.int (xs j) :: rest))) : W p l e R s m #[.ref b] below meth c H locs cells slots Q (F0 m pc ls (.int i :: .ref b :: rest)) := by
  obtain ⟨⟨hx, hb, -⟩, ⟨hX, hbl, hL⟩, -⟩ := C
  refine va_sld hx hb hX hbl (fun h => absurd hbl (Nat.not_lt.mpr (A0_i.mp h))) hS (vin hj (by omega) hi) hdg ?_
  rw [vcl hj (by omega) hi]
  exact kk
theorem CWrun {w w2 : va_W} {r : Int32} {L9 : Nat → Prop} {hh : List (Nat × Nat × Nat × Nat)} (C : LC p l s m meth c b L xs D K) (hS : va_S (A0 s) s.heap H locs) (hC : CW l y ws rm D K L9 As w w2 r) (cw : vx_CSW R s #[.ref b] RL index y bytes maxL (some .int) hh ws rm rm.cells rm.slots n) (hP : va_P D vwCl w H) (hA : ∀ q, L9 q → s.heap.size ≤ q) (hn : As.length = n) (hsize : ls.size = 8) (hst : st0 = As.reverse ++ rest) (hW : (rest.map fun v => v.category).sum ≤ 8) (hdg : decode code pc = .ok (.invokestatic index, 3)) (hf : cells + rm.cells ≤ R.cells ∧ slots + rm.slots ≤ R.slots)
    (kk : ∀ (H1 : Heap) (locs1 : List Loc), va_P D vwCl w2 H1 → (∀ q, q < H.size → ¬ fr L9 H.size q → H1[q]? = H[q]?) → va_S (A0 s) s.heap H1 locs1 → W p l e R s m #[.ref b] below meth c H1 locs1 (cells + rm.cells) (slots + rm.slots) Q (F0 m (pc + 3) ls (.int r :: rest))) : W p l e R s m #[.ref b] below meth c H locs cells slots Q (F0 m pc ls st0) := by
  obtain ⟨⟨hx, hb, hml, hown, hts⟩, -, hE, hZ, -⟩ := C
  have hA9 : ∀ q, fr L9 H.size q → A0 s q := fun q h => h.elim (fun h => A0_i.mpr (hA q h)) (fun h => A0_i.mpr (Nat.le_trans hS.1 h))
  have hbl : FrameBlind (va_Pc As (fun U => ZC U ∧ pre D K L9 w H.size U)) := by
    intro a U g mk q
    obtain ⟨q0, q9, q1, q2, q3⟩ := q
    exact ⟨q0, q9.moved (U := U.calling g mk a) (Vm.Alike.refl U.vm), q1, ev.same (u := U) (U := U.calling g mk a) rfl rfl q2, q3⟩
  refine va_calli (vx_runSW (As := As) (rest := rest) (g := F0 m pc ls st0) ⟨hx, hb, hml, hown, hts⟩ (hC H.size) cw ⟨hbl, fun U hU hW => ⟨rfl, hZ.moved hW.alike, by rw [hU], ev.call hE hS hU hW hA9, by rw [hU]; exact hP⟩⟩ rfl hn hsize hst (lv_room hW) hdg hf) hS (fun q _ h => hA9 q h) hA9 (fun x u t H1 locs1 ht hvm hw hB hz hk hS1 => ?_)
  subst hw
  exact kk H1 locs1 (by rw [← ht]; exact hB) hk hS1
/-- a call of a wrapper with the row of longs -/
theorem lwS {r : Int32} {hh : List (Nat × Nat × Nat × Nat)} (C : LC p l s m meth c b L xs D K) (J : LD s gc gm o1 o2) (I : LI D K gc gm o1 o2 u v f fd H) (hS : va_S (A0 s) s.heap H locs) (hC : CW l y ws rm D K (Lo gc o1) As (wC K gc u ++ oL K o1 f) (wC K gc u' ++ oL K o1 f') r) (cw : vx_CSW R s #[.ref b] RL index y bytes maxL (some .int) hh ws rm rm.cells rm.slots n) (hn : As.length = n) (hsize : ls.size = 8) (hst : st0 = As.reverse ++ rest) (hW : (rest.map fun v => v.category).sum ≤ 8) (hdg : decode code pc = .ok (.invokestatic index, 3)) (hf : cells + rm.cells ≤ R.cells ∧ slots + rm.slots ≤ R.slots)
    (kk : ∀ (H1 : Heap) (locs1 : List Loc), LI D K gc gm o1 o2 u' v f' fd H1 → va_S (A0 s) s.heap H1 locs1 → W p l e R s m #[.ref b] below meth c H1 locs1 (cells + rm.cells) (slots + rm.slots) Q (F0 m (pc + 3) ls (.int r :: rest))) : W p l e R s m #[.ref b] below meth c H locs cells slots Q (F0 m pc ls st0) := by
  obtain ⟨I1, I2, I3, I4⟩ := I
  obtain ⟨⟨J1, J2, J3, J4⟩, J5, J6, J7, J8⟩ := J
  refine CWrun C hS hC cw (I1.app I3) (fun q h => h.elim (fun ⟨i, hi, e9⟩ => by rw [e9]; exact J1.2 i hi) (fun h => by rw [h]; exact J3)) hn hsize hst hW hdg hf (fun H1 locs1 hP hk hS1 => ?_)
  refine kk H1 locs1 ⟨hP.sub (List.range 29) rfl, keepW I2 hk (fun k x hx h => ?_), hP.sub [29] rfl, keepW I4 hk (fun k x hx h => ?_)⟩ hS1
  · obtain ⟨j, hj, ej⟩ := wM_a hx
    rcases h with ⟨i, hi, e9⟩ | h
    · exact J8 i j hi hj (by rw [← e9, ← ej])
    · exact (J7 j hj).1 (by rw [← ej, h])
  · have ej := w1_a hx
    rcases h with ⟨i, hi, e9⟩ | h
    · exact (J6 i hi).2 (by rw [← e9, ← ej])
    · exact J5 (by rw [← h, ← ej])
/-- a call of a wrapper with the row of doubles -/
theorem lwD {r : Int32} {hh : List (Nat × Nat × Nat × Nat)} (C : LC p l s m meth c b L xs D K) (J : LD s gc gm o1 o2) (I : LI D K gc gm o1 o2 u v f fd H) (hS : va_S (A0 s) s.heap H locs) (hC : CW l y ws rm D K (Lo gc o2) As (wC K gc u ++ oD K o2 fd) (wC K gc u' ++ oD K o2 fd') r) (cw : vx_CSW R s #[.ref b] RL index y bytes maxL (some .int) hh ws rm rm.cells rm.slots n) (hn : As.length = n) (hsize : ls.size = 8) (hst : st0 = As.reverse ++ rest) (hW : (rest.map fun v => v.category).sum ≤ 8) (hdg : decode code pc = .ok (.invokestatic index, 3)) (hf : cells + rm.cells ≤ R.cells ∧ slots + rm.slots ≤ R.slots)
    (kk : ∀ (H1 : Heap) (locs1 : List Loc), LI D K gc gm o1 o2 u' v f fd' H1 → va_S (A0 s) s.heap H1 locs1 → W p l e R s m #[.ref b] below meth c H1 locs1 (cells + rm.cells) (slots + rm.slots) Q (F0 m (pc + 3) ls (.int r :: rest))) : W p l e R s m #[.ref b] below meth c H locs cells slots Q (F0 m pc ls st0) := by
  obtain ⟨I1, I2, I3, I4⟩ := I
  obtain ⟨⟨J1, J2, J3, J4⟩, J5, J6, J7, J8⟩ := J
  refine CWrun C hS hC cw (I1.app I4) (fun q h => h.elim (fun ⟨i, hi, e9⟩ => by rw [e9]; exact J1.2 i hi) (fun h => by rw [h]; exact J4)) hn hsize hst hW hdg hf (fun H1 locs1 hP hk hS1 => ?_)
  refine kk H1 locs1 ⟨hP.sub (List.range 29) rfl, keepW I2 hk (fun k x hx h => ?_), keepW I3 hk (fun k x hx h => ?_), hP.sub [29] rfl⟩ hS1
  · obtain ⟨j, hj, ej⟩ := wM_a hx
    rcases h with ⟨i, hi, e9⟩ | h
    · exact J8 i j hi hj (by rw [← e9, ← ej])
    · exact (J7 j hj).2 (by rw [← ej, h])
  · have ej := w1_a hx
    rcases h with ⟨i, hi, e9⟩ | h
    · exact (J6 i hi).1 (by rw [← e9, ← ej])
    · exact J5 (by rw [← h, ← ej])
theorem LI_m (J : LD s gc gm o1 o2) (I : LI D K gc gm o1 o2 u v f fd H) {H1 : Heap} (hP : va_P D vwCl (wM K gm v') H1) (hk : ∀ q, q < H.size → ¬ fr (Lm gm) H.size q → H1[q]? = H[q]?) : LI D K gc gm o1 o2 u v' f fd H1 := by
  obtain ⟨I1, I2, I3, I4⟩ := I
  obtain ⟨⟨J1, J2, J3, J4⟩, J5, J6, J7, J8⟩ := J
  refine ⟨keepW I1 hk (fun k x hx h => ?_), hP, keepW I3 hk (fun k x hx h => ?_), keepW I4 hk (fun k x hx h => ?_)⟩
  · obtain ⟨i, hi, ei⟩ := wC_a hx
    obtain ⟨j, hj, ej⟩ := h
    exact J8 i j hi hj (by rw [← ei, ← ej])
  · obtain ⟨j, hj, ej⟩ := h
    exact (J7 j hj).1 (by rw [← ej, w1_a hx])
  · obtain ⟨j, hj, ej⟩ := h
    exact (J7 j hj).2 (by rw [← ej, w1_a hx])
theorem LI_c (J : LD s gc gm o1 o2) (I : LI D K gc gm o1 o2 u v f fd H) {H1 : Heap} (hP : va_P D vwCl (wC K gc u') H1) (hk : ∀ q, q < H.size → ¬ fr (Lg gc) H.size q → H1[q]? = H[q]?) : LI D K gc gm o1 o2 u' v f fd H1 := by
  obtain ⟨I1, I2, I3, I4⟩ := I
  obtain ⟨⟨J1, J2, J3, J4⟩, J5, J6, J7, J8⟩ := J
  refine ⟨hP, keepW I2 hk (fun k x hx h => ?_), keepW I3 hk (fun k x hx h => ?_), keepW I4 hk (fun k x hx h => ?_)⟩
  · obtain ⟨j, hj, ej⟩ := wM_a hx
    obtain ⟨i, hi, ei⟩ := h
    exact J8 i j hi hj (by rw [← ei, ← ej])
  · obtain ⟨i, hi, ei⟩ := h
    exact (J6 i hi).1 (by rw [← ei, w1_a hx])
  · obtain ⟨i, hi, ei⟩ := h
    exact (J6 i hi).2 (by rw [← ei, w1_a hx])
/-- a call of the reference -/
theorem lmI {r : Int32} {ty : FieldType} (C : LC p l s m meth c b L xs D K) (J : LD s gc gm o1 o2) (I : LI D K gc gm o1 o2 u v f fd H) (hS : va_S (A0 s) s.heap H locs) (hC : CI l y ws rm D K (Lm gm) (.ref (gm 0) :: As) (wM K gm v) (wM K gm v') r) (cw : CallW R s #[.ref b] RL RX5 index y bytes maxL (some ty) ws rm rm.cells rm.slots n) (hz0 : rm.cells = 0) (hz1 : rm.slots = 0) (hn : As.length = n) (hsize : ls.size = 8) (hst : st0 = As.reverse ++ .ref (gm 0) :: rest) (hW : (rest.map fun v => v.category).sum ≤ 8) (hdg : decode code pc = .ok (.invokevirtual index, 3)) (hf : cells ≤ R.cells ∧ slots ≤ R.slots)
    (kk : ∀ (H1 : Heap) (locs1 : List Loc), LI D K gc gm o1 o2 u v' f fd H1 → va_S (A0 s) s.heap H1 locs1 → W p l e R s m #[.ref b] below meth c H1 locs1 cells slots Q (F0 m (pc + 3) ls (.int r :: rest))) : W p l e R s m #[.ref b] below meth c H locs cells slots Q (F0 m pc ls st0) := by
  obtain ⟨⟨hx, hb, hml, hown, hts⟩, -, hE, hZ, -⟩ := C
  refine kiV (As := As) (rest := rest) ⟨hx, hb, hml, hown, hts⟩ hC cw hz0 hz1 0 rfl rfl hE I.2.1 hS (fun q h => h.elim (fun ⟨i, hi, e9⟩ => A0_i.mpr (by rw [e9]; exact J.1.2.1.2 i hi)) (fun h => A0_i.mpr (Nat.le_trans hS.1 h))) hn hsize hst hW hdg hf (fun H1 locs1 hP hk _ hS1 => ?_)
  exact kk H1 locs1 (LI_m J I hP hk) hS1
theorem lmF {r : UInt32} {ty : FieldType} (C : LC p l s m meth c b L xs D K) (J : LD s gc gm o1 o2) (I : LI D K gc gm o1 o2 u v f fd H) (hS : va_S (A0 s) s.heap H locs) (hC : CF l y ws rm D K (Lm gm) (.ref (gm 0) :: As) (wM K gm v) (wM K gm v') r) (cw : CallW R s #[.ref b] RL RX5 index y bytes maxL (some ty) ws rm rm.cells rm.slots n) (hz0 : rm.cells = 0) (hz1 : rm.slots = 0) (hn : As.length = n) (hsize : ls.size = 8) (hst : st0 = As.reverse ++ .ref (gm 0) :: rest) (hW : (rest.map fun v => v.category).sum ≤ 8) (hdg : decode code pc = .ok (.invokevirtual index, 3)) (hf : cells ≤ R.cells ∧ slots ≤ R.slots)
    (kk : ∀ (H1 : Heap) (locs1 : List Loc), LI D K gc gm o1 o2 u v' f fd H1 → va_S (A0 s) s.heap H1 locs1 → W p l e R s m #[.ref b] below meth c H1 locs1 cells slots Q (F0 m (pc + 3) ls (.float r :: rest))) : W p l e R s m #[.ref b] below meth c H locs cells slots Q (F0 m pc ls st0) := by
  obtain ⟨⟨hx, hb, hml, hown, hts⟩, -, hE, hZ, -⟩ := C
  refine kfV (As := As) (rest := rest) ⟨hx, hb, hml, hown, hts⟩ hC cw hz0 hz1 0 rfl rfl hE I.2.1 hS (fun q h => h.elim (fun ⟨i, hi, e9⟩ => A0_i.mpr (by rw [e9]; exact J.1.2.1.2 i hi)) (fun h => A0_i.mpr (Nat.le_trans hS.1 h))) hn hsize hst hW hdg hf (fun H1 locs1 hP hk _ hS1 => ?_)
  exact kk H1 locs1 (LI_m J I hP hk) hS1
/-- a call of the class itself -/
theorem lcI {r : Int32} {ty : FieldType} (C : LC p l s m meth c b L xs D K) (J : LD s gc gm o1 o2) (I : LI D K gc gm o1 o2 u v f fd H) (hS : va_S (A0 s) s.heap H locs) (hC : CI l y ws rm D K (Lg gc) (.ref (gc 0) :: As) (wC K gc u) (wC K gc u') r) (cw : CallW R s #[.ref b] RL RX4 index y bytes maxL (some ty) ws rm rm.cells rm.slots n) (hz0 : rm.cells = 0) (hz1 : rm.slots = 0) (hn : As.length = n) (hsize : ls.size = 8) (hst : st0 = As.reverse ++ .ref (gc 0) :: rest) (hW : (rest.map fun v => v.category).sum ≤ 8) (hdg : decode code pc = .ok (.invokevirtual index, 3)) (hf : cells ≤ R.cells ∧ slots ≤ R.slots)
    (kk : ∀ (H1 : Heap) (locs1 : List Loc), LI D K gc gm o1 o2 u' v f fd H1 → va_S (A0 s) s.heap H1 locs1 → W p l e R s m #[.ref b] below meth c H1 locs1 cells slots Q (F0 m (pc + 3) ls (.int r :: rest))) : W p l e R s m #[.ref b] below meth c H locs cells slots Q (F0 m pc ls st0) := by
  obtain ⟨⟨hx, hb, hml, hown, hts⟩, -, hE, hZ, -⟩ := C
  refine kiV (As := As) (rest := rest) ⟨hx, hb, hml, hown, hts⟩ hC cw hz0 hz1 0 rfl rfl hE I.1 hS (fun q h => h.elim (fun ⟨i, hi, e9⟩ => A0_i.mpr (by rw [e9]; exact J.1.1.2 i hi)) (fun h => A0_i.mpr (Nat.le_trans hS.1 h))) hn hsize hst hW hdg hf (fun H1 locs1 hP hk _ hS1 => ?_)
  exact kk H1 locs1 (LI_c J I hP hk) hS1
end LAWC
theorem cE_0 {l : List String} {E : Option String} (h : cE l E = 0) (hl : l.length < 4) : E = none := by
  cases E with
  | none => rfl
  | some X =>
    have h2 : nI (l.idxOf X + 1) = nI 0 := h
    have h3 : l.idxOf X ≤ l.length := List.idxOf_le_length
    exact absurd ((nI_eq (by omega) (by omega)).mp h2) (by omega)
/-- one operation on both sides: their contracts, their exceptions, their answers, what holds behind it -/
def OPi (l : Launch) (D : va_G) (K : Nat → ClassId) (yC : MethodName) (wsC : List Cond) (rmC : Room) (yM : MethodName) (wsM : List Cond) (rmM : Room) (XL : List String) (Rel : CU → MU → Prop) (As : List Value) (u : CU) (v : MU) : Prop :=
  ∃ (u2 : CU) (v2 : MU) (E : Option String) (r rM : Int32), (∀ g, gd (Lg g) g 29 → XI l yC wsC rmC D K (Lg g) (.ref (g 0) :: As) (wC K g u) (wC K g u2) E r) ∧ (∀ g, gd (Lm g) g 14 → CI l yM wsM rmM D K (Lm g) (.ref (g 0) :: As) (wM K g v) (wM K g v2) rM) ∧ (∀ X, E = some X → X ∈ XL) ∧ m_thr v2 = cE XL E ∧ (E = none → r = rM) ∧ Rel (eu E u2 u) v2
def OPf (l : Launch) (D : va_G) (K : Nat → ClassId) (yC : MethodName) (wsC : List Cond) (rmC : Room) (yM : MethodName) (wsM : List Cond) (rmM : Room) (XL : List String) (Rel : CU → MU → Prop) (As : List Value) (u : CU) (v : MU) : Prop :=
  ∃ (u2 : CU) (v2 : MU) (E : Option String) (j : Nat) (rM : UInt32), (∀ g, gd (Lg g) g 29 → XF l yC wsC rmC D K (Lg g) (.ref (g 0) :: As) (wC K g u) (wC K g u2) E (fdv j)) ∧ (∀ g, gd (Lm g) g 14 → CF l yM wsM rmM D K (Lm g) (.ref (g 0) :: As) (wM K g v) (wM K g v2) rM) ∧ (∀ X, E = some X → X ∈ XL) ∧ m_thr v2 = cE XL E ∧ (E = none → fdv j = rM) ∧ j < 9 ∧ Rel (eu E u2 u) v2
theorem f2d_all : ∀ n, n < 9 → vf_n64 (FP.f2d (fdv n)) := by unfold vf_n64; decide +kernel
theorem dcmp_all : ∀ n, n < 9 → Op.cmpValue (FP.dcmp (FP.f2d (fdv n)) (FP.f2d (fdv n))) .l = 0 := by decide +kernel

section TPD
variable {p : Program} {l : Launch} {e : Env} {R : Room} {s : State} {m : MethodId} {args : Array Value} {below : List Frame} {meth : Method} {c : Code} {H : Heap} {locs : List Loc} {cells slots : Nat} {Q : State → Prop} {pc : Nat} {ls : Array Slot} {rest : List Value}
theorem tpd {x y : UInt64} (h : x = y) (k : W p l e R s m args below meth c H locs cells slots Q (F0 m pc ls (.double y :: rest))) : W p l e R s m args below meth c H locs cells slots Q (F0 m pc ls (.double x :: rest)) := h ▸ k
end TPD

set_option maxHeartbeats 4000000 in
set_option maxRecDepth 100000 in
theorem law_begin {p : Program} {l : Launch} {e : Env} {s : State} {m : MethodId} {below : List Frame} {meth : Method} {c : Code} {H : Heap} {locs : List Loc} {cells slots : Nat} {Q : State → Prop} {b L i : Nat} {xs : Nat → Int32} {ls : Array Slot} {D : va_G} {K : Nat → ClassId} {gc gm : Nat → Nat} {o1 o2 : Nat} {u : CU} {v : MU} {f : AL} {fd : Nat → UInt64} {Rel : CU → MU → Prop}
    (C : LC p l s m meth c b L xs D K) (J : LD s gc gm o1 o2) (I : LI D K gc gm o1 o2 u v f fd H) (hS : va_S (A0 s) s.heap H locs) (hi : i + 4 ≤ L) (hcr : cells + 6 ≤ room_1.cells) (hsr : slots + 36 ≤ room_1.slots) (hl : lv_has ls 8 [(5, .int (nI i)), (4, .ref o2), (3, .ref o1), (2, .ref (gm 0)), (1, .ref (gc 0)), (0, .ref b)]) (hop : OPi l D K yX4_begin wsX4_begin rmX4_begin yX5_begin wsX5_begin rmX5_begin [xIS] Rel [] u v)
    (kk : ∀ (u' : CU) (v' : MU) (f' : AL) (fd' : Nat → UInt64) (H1 : Heap) (locs1 : List Loc) (ls1 : Array Slot), Rel u' v' → LI D K gc gm o1 o2 u' v' f' fd' H1 → va_S (A0 s) s.heap H1 locs1 → lv_has ls1 8 [(5, .int (nI i)), (4, .ref o2), (3, .ref o1), (2, .ref (gm 0)), (1, .ref (gc 0)), (0, .ref b)] → W p l e room_1 s m #[.ref b] below meth c H1 locs1 (cells + 6) (slots + 36) Q (F0 m 1187 ls1 [])) : W p l e room_1 s m #[.ref b] below meth c H locs cells slots Q (F0 m 128 ls []) := by
  obtain ⟨hx, hb, hml, hown, hts⟩ := C.1
  have hL9 : L ≤ 2048 := C.2.1.2.2
  obtain ⟨u2, v2, E, r, rM, hC, hM, hE3, hthr, heq, hR⟩ := hop
  refine lv_aload_n hx hb dL_law_128 rfl (lv_at hl 4 rfl) ?_
  refine lv_aload_n hx hb dL_law_129 rfl (lv_at hl 2 rfl) ?_
  refine lwS (As := [.ref (gc 0), .ref o1]) (rest := []) C J I hS (kL_begin (gd_Lo (o := o1) J.1.1) (o := o1) (Or.inr rfl) (fun i hi => (J.2.2.1 i hi).1) (hC gc (gd_Lg J.1.1)) (fun X h9 => by have h8 := hE3 X h9; simpa using h8) f) (vx_cwSW 2 hts gL_law_L_begin rfl rfl rfl hdL_begin.2 ⟨(Nat.le_of_ble_eq_true rfl), (Nat.le_of_ble_eq_true rfl)⟩) rfl hl.1 rfl (Nat.le_of_ble_eq_true rfl) dL_law_130 ⟨Nat.le_trans (Nat.add_le_add_left (Nat.le_of_ble_eq_true rfl) cells) hcr, Nat.le_trans (Nat.add_le_add_left (Nat.le_of_ble_eq_true rfl) slots) hsr⟩ (fun H locs I hS => ?_)
  have hcr2 : cells + rmL_begin.cells ≤ room_1.cells := Nat.le_trans (Nat.add_le_add_left (Nat.le_of_ble_eq_true rfl) cells) hcr
  have hsr2 : slots + rmL_begin.slots ≤ room_1.slots := Nat.le_trans (Nat.add_le_add_left (Nat.le_of_ble_eq_true rfl) slots) hsr
  refine lv_istore (lv' := [(6, .int (cE [xIS] E)), (5, .int (nI i)), (4, .ref o2), (3, .ref o1), (2, .ref (gm 0)), (1, .ref (gc 0)), (0, .ref b)]) hx hb dL_law_133 hl (by decide) rfl (fun ls hl => ?_)
  refine lv_aload_n hx hb dL_law_135 rfl (lv_at hl 4 rfl) ?_
  refine lmI (As := []) (rest := []) C J I hS (hM gm (gd_Lm J.1.2.1)) (cwV 0 hts gL_law_X5_begin rfl rfl rfl hdX5_begin ⟨(Nat.le_of_ble_eq_true rfl), (Nat.le_of_ble_eq_true rfl)⟩) rfl rfl rfl hl.1 rfl (Nat.le_of_ble_eq_true rfl) dL_law_136 ⟨hcr2, hsr2⟩ (fun H locs I hS => ?_)
  refine lv_istore (lv' := [(7, .int rM), (6, .int (cE [xIS] E)), (5, .int (nI i)), (4, .ref o2), (3, .ref o1), (2, .ref (gm 0)), (1, .ref (gc 0)), (0, .ref b)]) hx hb dL_law_139 hl (by decide) rfl (fun ls hl => ?_)
  refine lv_aload_n hx hb dL_law_141 rfl (lv_at hl 5 rfl) ?_
  refine lmI (As := []) (rest := []) C J I hS (kX5_thrown (gd_Lm J.1.2.1) v2) (cwV 0 hts gL_law_X5_thrown rfl rfl rfl hdX5_thrown ⟨(Nat.le_of_ble_eq_true rfl), (Nat.le_of_ble_eq_true rfl)⟩) rfl rfl rfl hl.1 rfl (Nat.le_of_ble_eq_true rfl) dL_law_142 ⟨hcr2, hsr2⟩ (fun H locs I hS => ?_)
  refine lv_iload hx hb dL_law_145 (lv_at hl 1 rfl) ?_
  refine lv_icmp_eq (tgt := 152) hx hb dL_law_147 (by decide) (fun c1 => ?_) (fun c1 => ?_)
  · skip
    refine lv_iload hx hb dL_law_152 (lv_at hl 1 rfl) ?_
    refine lv_if_ne (tgt := 169) hx hb dL_law_154 (by decide) (fun c2 => ?_) (fun c2 => ?_)
    · skip
      refine lv_goto (tgt := 1187) hx hb dL_law_169 (by decide) ?_
      refine W.widen (k := cells + 6) (n := slots + 36) (Nat.add_le_add_left (Nat.le_of_ble_eq_true rfl) cells) (Nat.add_le_add_left (Nat.le_of_ble_eq_true rfl) slots) ?_
      exact kk _ _ _ _ _ _ _ hR I hS (lv_sub hl [2, 3, 4, 5, 6, 7] rfl)
    · have hn9 := cE_0 c2 (by decide)
      subst hn9
      have he9 := heq rfl
      subst he9
      refine lv_aload_n hx hb dL_law_157 rfl (lv_at hl 4 rfl) ?_
      refine lv_iconst (v := 0) hx hb dL_law_158 (by decide) ?_
      refine va_lald hx hb C.2.2.1.1 I.2.2.1 0 1 rfl rfl (vin (n := 1) (by decide) (by decide) (show (0 : Int32) = nI 0 from rfl)) dL_law_159 ?_
      refine tpl (y := (r.toInt64)) rfl ?_
      refine lv_iload hx hb dL_law_160 (lv_at hl 0 rfl) ?_
      refine lv_i2l hx hb dL_law_162 rfl ?_
      refine W.lcmp hx hb dL_law_163 ?_
      refine bleq (tgt := 169) hx hb dL_law_164 (by decide) (fun c3 => ?_) (fun c3 => ?_)
      · skip
        refine lv_goto (tgt := 1187) hx hb dL_law_169 (by decide) ?_
        refine W.widen (k := cells + 6) (n := slots + 36) (Nat.add_le_add_left (Nat.le_of_ble_eq_true rfl) cells) (Nat.add_le_add_left (Nat.le_of_ble_eq_true rfl) slots) ?_
        exact kk _ _ _ _ _ _ _ hR I hS (lv_sub hl [2, 3, 4, 5, 6, 7] rfl)
      · exact absurd (by first | rfl | exact if_pos c4 | exact if_neg c4) c3
  · exact absurd hthr c1

set_option maxHeartbeats 4000000 in
set_option maxRecDepth 100000 in
theorem law_end {p : Program} {l : Launch} {e : Env} {s : State} {m : MethodId} {below : List Frame} {meth : Method} {c : Code} {H : Heap} {locs : List Loc} {cells slots : Nat} {Q : State → Prop} {b L i : Nat} {xs : Nat → Int32} {ls : Array Slot} {D : va_G} {K : Nat → ClassId} {gc gm : Nat → Nat} {o1 o2 : Nat} {u : CU} {v : MU} {f : AL} {fd : Nat → UInt64} {Rel : CU → MU → Prop}
    (C : LC p l s m meth c b L xs D K) (J : LD s gc gm o1 o2) (I : LI D K gc gm o1 o2 u v f fd H) (hS : va_S (A0 s) s.heap H locs) (hi : i + 4 ≤ L) (hcr : cells + 6 ≤ room_1.cells) (hsr : slots + 36 ≤ room_1.slots) (hl : lv_has ls 8 [(5, .int (nI i)), (4, .ref o2), (3, .ref o1), (2, .ref (gm 0)), (1, .ref (gc 0)), (0, .ref b)]) (hop : OPi l D K yX4_end wsX4_end rmX4_end yX5_end wsX5_end rmX5_end [xIO, xIS] Rel [.int (xs (i + 1)), .int (fb (¬ xs (i + 2) = 0))] u v)
    (kk : ∀ (u' : CU) (v' : MU) (f' : AL) (fd' : Nat → UInt64) (H1 : Heap) (locs1 : List Loc) (ls1 : Array Slot), Rel u' v' → LI D K gc gm o1 o2 u' v' f' fd' H1 → va_S (A0 s) s.heap H1 locs1 → lv_has ls1 8 [(5, .int (nI i)), (4, .ref o2), (3, .ref o1), (2, .ref (gm 0)), (1, .ref (gc 0)), (0, .ref b)] → W p l e room_1 s m #[.ref b] below meth c H1 locs1 (cells + 6) (slots + 36) Q (F0 m 1187 ls1 [])) : W p l e room_1 s m #[.ref b] below meth c H locs cells slots Q (F0 m 172 ls []) := by
  obtain ⟨hx, hb, hml, hown, hts⟩ := C.1
  have hL9 : L ≤ 2048 := C.2.1.2.2
  obtain ⟨u2, v2, E, r, rM, hC, hM, hE3, hthr, heq, hR⟩ := hop
  refine lv_aload_n hx hb dL_law_172 rfl (lv_at hl 4 rfl) ?_
  refine lv_aload_n hx hb dL_law_173 rfl (lv_at hl 5 rfl) ?_
  refine lv_iload hx hb dL_law_174 (lv_at hl 0 rfl) ?_
  refine lv_iconst (v := 1) hx hb dL_law_176 (by decide) ?_
  refine lv_iadd hx hb dL_law_177 ?_
  refine tpi (y := nI (i + 1)) (nI_add i 1) ?_
  refine sld C hS (j := i + 1) (by omega) rfl dL_law_178 ?_
  refine lv_aload_n hx hb dL_law_179 rfl (lv_at hl 5 rfl) ?_
  refine lv_iload hx hb dL_law_180 (lv_at hl 0 rfl) ?_
  refine lv_iconst (v := 2) hx hb dL_law_182 (by decide) ?_
  refine lv_iadd hx hb dL_law_183 ?_
  refine tpi (y := nI (i + 2)) (nI_add i 2) ?_
  refine sld C hS (j := i + 2) (by omega) rfl dL_law_184 ?_
  have j185 : W p l e room_1 s m #[.ref b] below meth c H locs cells slots Q (F0 m 193 ls [.int (fb (¬ (xs (i + 2)) = 0)), .int (xs (i + 1)), .ref (gc 0)]) := by
    refine lv_aload_n hx hb dL_law_193 rfl (lv_at hl 2 rfl) ?_
    refine lwS (As := [.ref (gc 0), .int (xs (i + 1)), .int (fb (¬ (xs (i + 2)) = 0)), .ref o1]) (rest := []) C J I hS (kL_end (gd_Lo (o := o1) J.1.1) (o := o1) (Or.inr rfl) (fun i hi => (J.2.2.1 i hi).1) _ _ (hC gc (gd_Lg J.1.1)) (fun X h9 => by have h8 := hE3 X h9; simpa using h8) f) (vx_cwSW 4 hts gL_law_L_end rfl rfl rfl hdL_end.2 ⟨(Nat.le_of_ble_eq_true rfl), (Nat.le_of_ble_eq_true rfl)⟩) rfl hl.1 rfl (Nat.le_of_ble_eq_true rfl) dL_law_194 ⟨Nat.le_trans (Nat.add_le_add_left (Nat.le_of_ble_eq_true rfl) cells) hcr, Nat.le_trans (Nat.add_le_add_left (Nat.le_of_ble_eq_true rfl) slots) hsr⟩ (fun H locs I hS => ?_)
    have hcr2 : cells + rmL_end.cells ≤ room_1.cells := Nat.le_trans (Nat.add_le_add_left (Nat.le_of_ble_eq_true rfl) cells) hcr
    have hsr2 : slots + rmL_end.slots ≤ room_1.slots := Nat.le_trans (Nat.add_le_add_left (Nat.le_of_ble_eq_true rfl) slots) hsr
    refine lv_istore (lv' := [(6, .int (cE [xIO, xIS] E)), (5, .int (nI i)), (4, .ref o2), (3, .ref o1), (2, .ref (gm 0)), (1, .ref (gc 0)), (0, .ref b)]) hx hb dL_law_197 hl (by decide) rfl (fun ls hl => ?_)
    refine lv_aload_n hx hb dL_law_199 rfl (lv_at hl 4 rfl) ?_
    refine lv_aload_n hx hb dL_law_200 rfl (lv_at hl 6 rfl) ?_
    refine lv_iload hx hb dL_law_201 (lv_at hl 1 rfl) ?_
    refine lv_iconst (v := 1) hx hb dL_law_203 (by decide) ?_
    refine lv_iadd hx hb dL_law_204 ?_
    refine tpi (y := nI (i + 1)) (nI_add i 1) ?_
    refine sld C hS (j := i + 1) (by omega) rfl dL_law_205 ?_
    refine lv_aload_n hx hb dL_law_206 rfl (lv_at hl 6 rfl) ?_
    refine lv_iload hx hb dL_law_207 (lv_at hl 1 rfl) ?_
    refine lv_iconst (v := 2) hx hb dL_law_209 (by decide) ?_
    refine lv_iadd hx hb dL_law_210 ?_
    refine tpi (y := nI (i + 2)) (nI_add i 2) ?_
    refine sld C hS (j := i + 2) (by omega) rfl dL_law_211 ?_
    have j212 : W p l e room_1 s m #[.ref b] below meth c H locs (cells + rmL_end.cells) (slots + rmL_end.slots) Q (F0 m 220 ls [.int (fb (¬ (xs (i + 2)) = 0)), .int (xs (i + 1)), .ref (gm 0)]) := by
      refine lmI (As := [.int (xs (i + 1)), .int (fb (¬ (xs (i + 2)) = 0))]) (rest := []) C J I hS (hM gm (gd_Lm J.1.2.1)) (cwV 2 hts gL_law_X5_end rfl rfl rfl hdX5_end ⟨(Nat.le_of_ble_eq_true rfl), (Nat.le_of_ble_eq_true rfl)⟩) rfl rfl rfl hl.1 rfl (Nat.le_of_ble_eq_true rfl) dL_law_220 ⟨hcr2, hsr2⟩ (fun H locs I hS => ?_)
      refine lv_istore (lv' := [(7, .int rM), (6, .int (cE [xIO, xIS] E)), (5, .int (nI i)), (4, .ref o2), (3, .ref o1), (2, .ref (gm 0)), (1, .ref (gc 0)), (0, .ref b)]) hx hb dL_law_223 hl (by decide) rfl (fun ls hl => ?_)
      refine lv_aload_n hx hb dL_law_225 rfl (lv_at hl 5 rfl) ?_
      refine lmI (As := []) (rest := []) C J I hS (kX5_thrown (gd_Lm J.1.2.1) v2) (cwV 0 hts gL_law_X5_thrown rfl rfl rfl hdX5_thrown ⟨(Nat.le_of_ble_eq_true rfl), (Nat.le_of_ble_eq_true rfl)⟩) rfl rfl rfl hl.1 rfl (Nat.le_of_ble_eq_true rfl) dL_law_226 ⟨hcr2, hsr2⟩ (fun H locs I hS => ?_)
      refine lv_iload hx hb dL_law_229 (lv_at hl 1 rfl) ?_
      refine lv_icmp_eq (tgt := 236) hx hb dL_law_231 (by decide) (fun c1 => ?_) (fun c1 => ?_)
      · skip
        refine lv_iload hx hb dL_law_236 (lv_at hl 1 rfl) ?_
        refine lv_if_ne (tgt := 253) hx hb dL_law_238 (by decide) (fun c2 => ?_) (fun c2 => ?_)
        · skip
          refine lv_goto (tgt := 1187) hx hb dL_law_253 (by decide) ?_
          refine W.widen (k := cells + 6) (n := slots + 36) (Nat.add_le_add_left (Nat.le_of_ble_eq_true rfl) cells) (Nat.add_le_add_left (Nat.le_of_ble_eq_true rfl) slots) ?_
          exact kk _ _ _ _ _ _ _ hR I hS (lv_sub hl [2, 3, 4, 5, 6, 7] rfl)
        · have hn9 := cE_0 c2 (by decide)
          subst hn9
          have he9 := heq rfl
          subst he9
          refine lv_aload_n hx hb dL_law_241 rfl (lv_at hl 4 rfl) ?_
          refine lv_iconst (v := 0) hx hb dL_law_242 (by decide) ?_
          refine va_lald hx hb C.2.2.1.1 I.2.2.1 0 1 rfl rfl (vin (n := 1) (by decide) (by decide) (show (0 : Int32) = nI 0 from rfl)) dL_law_243 ?_
          refine tpl (y := (r.toInt64)) rfl ?_
          refine lv_iload hx hb dL_law_244 (lv_at hl 0 rfl) ?_
          refine lv_i2l hx hb dL_law_246 rfl ?_
          refine W.lcmp hx hb dL_law_247 ?_
          refine bleq (tgt := 253) hx hb dL_law_248 (by decide) (fun c3 => ?_) (fun c3 => ?_)
          · skip
            refine lv_goto (tgt := 1187) hx hb dL_law_253 (by decide) ?_
            refine W.widen (k := cells + 6) (n := slots + 36) (Nat.add_le_add_left (Nat.le_of_ble_eq_true rfl) cells) (Nat.add_le_add_left (Nat.le_of_ble_eq_true rfl) slots) ?_
            exact kk _ _ _ _ _ _ _ hR I hS (lv_sub hl [2, 3, 4, 5, 6, 7] rfl)
          · exact absurd (by first | rfl | exact if_pos c4 | exact if_neg c4) c3
      · exact absurd hthr c1
    refine lv_if_eq (tgt := 219) hx hb dL_law_212 (by decide) (fun c1 => ?_) (fun c1 => ?_)
    · skip
      refine lv_iconst (v := 0) hx hb dL_law_219 (by decide) ?_
      exact tpi (y := fb (¬ (xs (i + 2)) = 0)) (f_fb (fun k9 => k9 c1)) j212
    · skip
      refine lv_iconst (v := 1) hx hb dL_law_215 (by decide) ?_
      refine lv_goto (tgt := 220) hx hb dL_law_216 (by decide) ?_
      exact tpi (y := fb (¬ (xs (i + 2)) = 0)) (t_fb c1) j212
  refine lv_if_eq (tgt := 192) hx hb dL_law_185 (by decide) (fun c1 => ?_) (fun c1 => ?_)
  · skip
    refine lv_iconst (v := 0) hx hb dL_law_192 (by decide) ?_
    exact tpi (y := fb (¬ (xs (i + 2)) = 0)) (f_fb (fun k9 => k9 c1)) j185
  · skip
    refine lv_iconst (v := 1) hx hb dL_law_188 (by decide) ?_
    refine lv_goto (tgt := 193) hx hb dL_law_189 (by decide) ?_
    exact tpi (y := fb (¬ (xs (i + 2)) = 0)) (t_fb c1) j185

set_option maxHeartbeats 4000000 in
set_option maxRecDepth 100000 in
theorem law_jump {p : Program} {l : Launch} {e : Env} {s : State} {m : MethodId} {below : List Frame} {meth : Method} {c : Code} {H : Heap} {locs : List Loc} {cells slots : Nat} {Q : State → Prop} {b L i : Nat} {xs : Nat → Int32} {ls : Array Slot} {D : va_G} {K : Nat → ClassId} {gc gm : Nat → Nat} {o1 o2 : Nat} {u : CU} {v : MU} {f : AL} {fd : Nat → UInt64} {Rel : CU → MU → Prop}
    (C : LC p l s m meth c b L xs D K) (J : LD s gc gm o1 o2) (I : LI D K gc gm o1 o2 u v f fd H) (hS : va_S (A0 s) s.heap H locs) (hi : i + 4 ≤ L) (hcr : cells + 6 ≤ room_1.cells) (hsr : slots + 36 ≤ room_1.slots) (hl : lv_has ls 8 [(5, .int (nI i)), (4, .ref o2), (3, .ref o1), (2, .ref (gm 0)), (1, .ref (gc 0)), (0, .ref b)]) (hop : OPi l D K yX4_jump wsX4_jump rmX4_jump yX5_jump wsX5_jump rmX5_jump [xIA, xIS] Rel [.int (xs (i + 1))] u v)
    (kk : ∀ (u' : CU) (v' : MU) (f' : AL) (fd' : Nat → UInt64) (H1 : Heap) (locs1 : List Loc) (ls1 : Array Slot), Rel u' v' → LI D K gc gm o1 o2 u' v' f' fd' H1 → va_S (A0 s) s.heap H1 locs1 → lv_has ls1 8 [(5, .int (nI i)), (4, .ref o2), (3, .ref o1), (2, .ref (gm 0)), (1, .ref (gc 0)), (0, .ref b)] → W p l e room_1 s m #[.ref b] below meth c H1 locs1 (cells + 6) (slots + 36) Q (F0 m 1187 ls1 [])) : W p l e room_1 s m #[.ref b] below meth c H locs cells slots Q (F0 m 256 ls []) := by
  obtain ⟨hx, hb, hml, hown, hts⟩ := C.1
  have hL9 : L ≤ 2048 := C.2.1.2.2
  obtain ⟨u2, v2, E, r, rM, hC, hM, hE3, hthr, heq, hR⟩ := hop
  refine lv_aload_n hx hb dL_law_256 rfl (lv_at hl 4 rfl) ?_
  refine lv_aload_n hx hb dL_law_257 rfl (lv_at hl 5 rfl) ?_
  refine lv_iload hx hb dL_law_258 (lv_at hl 0 rfl) ?_
  refine lv_iconst (v := 1) hx hb dL_law_260 (by decide) ?_
  refine lv_iadd hx hb dL_law_261 ?_
  refine tpi (y := nI (i + 1)) (nI_add i 1) ?_
  refine sld C hS (j := i + 1) (by omega) rfl dL_law_262 ?_
  refine lv_aload_n hx hb dL_law_263 rfl (lv_at hl 2 rfl) ?_
  refine lwS (As := [.ref (gc 0), .int (xs (i + 1)), .ref o1]) (rest := []) C J I hS (kL_jump (gd_Lo (o := o1) J.1.1) (o := o1) (Or.inr rfl) (fun i hi => (J.2.2.1 i hi).1) _ (hC gc (gd_Lg J.1.1)) (fun X h9 => by have h8 := hE3 X h9; simpa using h8) f) (vx_cwSW 3 hts gL_law_L_jump rfl rfl rfl hdL_jump.2 ⟨(Nat.le_of_ble_eq_true rfl), (Nat.le_of_ble_eq_true rfl)⟩) rfl hl.1 rfl (Nat.le_of_ble_eq_true rfl) dL_law_264 ⟨Nat.le_trans (Nat.add_le_add_left (Nat.le_of_ble_eq_true rfl) cells) hcr, Nat.le_trans (Nat.add_le_add_left (Nat.le_of_ble_eq_true rfl) slots) hsr⟩ (fun H locs I hS => ?_)
  have hcr2 : cells + rmL_jump.cells ≤ room_1.cells := Nat.le_trans (Nat.add_le_add_left (Nat.le_of_ble_eq_true rfl) cells) hcr
  have hsr2 : slots + rmL_jump.slots ≤ room_1.slots := Nat.le_trans (Nat.add_le_add_left (Nat.le_of_ble_eq_true rfl) slots) hsr
  refine lv_istore (lv' := [(6, .int (cE [xIA, xIS] E)), (5, .int (nI i)), (4, .ref o2), (3, .ref o1), (2, .ref (gm 0)), (1, .ref (gc 0)), (0, .ref b)]) hx hb dL_law_267 hl (by decide) rfl (fun ls hl => ?_)
  refine lv_aload_n hx hb dL_law_269 rfl (lv_at hl 4 rfl) ?_
  refine lv_aload_n hx hb dL_law_270 rfl (lv_at hl 6 rfl) ?_
  refine lv_iload hx hb dL_law_271 (lv_at hl 1 rfl) ?_
  refine lv_iconst (v := 1) hx hb dL_law_273 (by decide) ?_
  refine lv_iadd hx hb dL_law_274 ?_
  refine tpi (y := nI (i + 1)) (nI_add i 1) ?_
  refine sld C hS (j := i + 1) (by omega) rfl dL_law_275 ?_
  refine lmI (As := [.int (xs (i + 1))]) (rest := []) C J I hS (hM gm (gd_Lm J.1.2.1)) (cwV 1 hts gL_law_X5_jump rfl rfl rfl hdX5_jump ⟨(Nat.le_of_ble_eq_true rfl), (Nat.le_of_ble_eq_true rfl)⟩) rfl rfl rfl hl.1 rfl (Nat.le_of_ble_eq_true rfl) dL_law_276 ⟨hcr2, hsr2⟩ (fun H locs I hS => ?_)
  refine lv_istore (lv' := [(7, .int rM), (6, .int (cE [xIA, xIS] E)), (5, .int (nI i)), (4, .ref o2), (3, .ref o1), (2, .ref (gm 0)), (1, .ref (gc 0)), (0, .ref b)]) hx hb dL_law_279 hl (by decide) rfl (fun ls hl => ?_)
  refine lv_aload_n hx hb dL_law_281 rfl (lv_at hl 5 rfl) ?_
  refine lmI (As := []) (rest := []) C J I hS (kX5_thrown (gd_Lm J.1.2.1) v2) (cwV 0 hts gL_law_X5_thrown rfl rfl rfl hdX5_thrown ⟨(Nat.le_of_ble_eq_true rfl), (Nat.le_of_ble_eq_true rfl)⟩) rfl rfl rfl hl.1 rfl (Nat.le_of_ble_eq_true rfl) dL_law_282 ⟨hcr2, hsr2⟩ (fun H locs I hS => ?_)
  refine lv_iload hx hb dL_law_285 (lv_at hl 1 rfl) ?_
  refine lv_icmp_eq (tgt := 292) hx hb dL_law_287 (by decide) (fun c1 => ?_) (fun c1 => ?_)
  · skip
    refine lv_iload hx hb dL_law_292 (lv_at hl 1 rfl) ?_
    refine lv_if_ne (tgt := 309) hx hb dL_law_294 (by decide) (fun c2 => ?_) (fun c2 => ?_)
    · skip
      refine lv_goto (tgt := 1187) hx hb dL_law_309 (by decide) ?_
      refine W.widen (k := cells + 6) (n := slots + 36) (Nat.add_le_add_left (Nat.le_of_ble_eq_true rfl) cells) (Nat.add_le_add_left (Nat.le_of_ble_eq_true rfl) slots) ?_
      exact kk _ _ _ _ _ _ _ hR I hS (lv_sub hl [2, 3, 4, 5, 6, 7] rfl)
    · have hn9 := cE_0 c2 (by decide)
      subst hn9
      have he9 := heq rfl
      subst he9
      refine lv_aload_n hx hb dL_law_297 rfl (lv_at hl 4 rfl) ?_
      refine lv_iconst (v := 0) hx hb dL_law_298 (by decide) ?_
      refine va_lald hx hb C.2.2.1.1 I.2.2.1 0 1 rfl rfl (vin (n := 1) (by decide) (by decide) (show (0 : Int32) = nI 0 from rfl)) dL_law_299 ?_
      refine tpl (y := (r.toInt64)) rfl ?_
      refine lv_iload hx hb dL_law_300 (lv_at hl 0 rfl) ?_
      refine lv_i2l hx hb dL_law_302 rfl ?_
      refine W.lcmp hx hb dL_law_303 ?_
      refine bleq (tgt := 309) hx hb dL_law_304 (by decide) (fun c3 => ?_) (fun c3 => ?_)
      · skip
        refine lv_goto (tgt := 1187) hx hb dL_law_309 (by decide) ?_
        refine W.widen (k := cells + 6) (n := slots + 36) (Nat.add_le_add_left (Nat.le_of_ble_eq_true rfl) cells) (Nat.add_le_add_left (Nat.le_of_ble_eq_true rfl) slots) ?_
        exact kk _ _ _ _ _ _ _ hR I hS (lv_sub hl [2, 3, 4, 5, 6, 7] rfl)
      · exact absurd (by first | rfl | exact if_pos c4 | exact if_neg c4) c3
  · exact absurd hthr c1

set_option maxHeartbeats 4000000 in
set_option maxRecDepth 100000 in
theorem law_stamp {p : Program} {l : Launch} {e : Env} {s : State} {m : MethodId} {below : List Frame} {meth : Method} {c : Code} {H : Heap} {locs : List Loc} {cells slots : Nat} {Q : State → Prop} {b L i : Nat} {xs : Nat → Int32} {ls : Array Slot} {D : va_G} {K : Nat → ClassId} {gc gm : Nat → Nat} {o1 o2 : Nat} {u : CU} {v : MU} {f : AL} {fd : Nat → UInt64} {Rel : CU → MU → Prop}
    (C : LC p l s m meth c b L xs D K) (J : LD s gc gm o1 o2) (I : LI D K gc gm o1 o2 u v f fd H) (hS : va_S (A0 s) s.heap H locs) (hi : i + 4 ≤ L) (hcr : cells + 6 ≤ room_1.cells) (hsr : slots + 36 ≤ room_1.slots) (hl : lv_has ls 8 [(5, .int (nI i)), (4, .ref o2), (3, .ref o1), (2, .ref (gm 0)), (1, .ref (gc 0)), (0, .ref b)]) (hop : OPi l D K yX4_stamp wsX4_stamp rmX4_stamp yX5_stamp wsX5_stamp rmX5_stamp [xIO] Rel [.int (xs (i + 1))] u v)
    (kk : ∀ (u' : CU) (v' : MU) (f' : AL) (fd' : Nat → UInt64) (H1 : Heap) (locs1 : List Loc) (ls1 : Array Slot), Rel u' v' → LI D K gc gm o1 o2 u' v' f' fd' H1 → va_S (A0 s) s.heap H1 locs1 → lv_has ls1 8 [(5, .int (nI i)), (4, .ref o2), (3, .ref o1), (2, .ref (gm 0)), (1, .ref (gc 0)), (0, .ref b)] → W p l e room_1 s m #[.ref b] below meth c H1 locs1 (cells + 6) (slots + 36) Q (F0 m 1187 ls1 [])) : W p l e room_1 s m #[.ref b] below meth c H locs cells slots Q (F0 m 312 ls []) := by
  obtain ⟨hx, hb, hml, hown, hts⟩ := C.1
  have hL9 : L ≤ 2048 := C.2.1.2.2
  obtain ⟨u2, v2, E, r, rM, hC, hM, hE3, hthr, heq, hR⟩ := hop
  refine lv_aload_n hx hb dL_law_312 rfl (lv_at hl 4 rfl) ?_
  refine lv_aload_n hx hb dL_law_313 rfl (lv_at hl 5 rfl) ?_
  refine lv_iload hx hb dL_law_314 (lv_at hl 0 rfl) ?_
  refine lv_iconst (v := 1) hx hb dL_law_316 (by decide) ?_
  refine lv_iadd hx hb dL_law_317 ?_
  refine tpi (y := nI (i + 1)) (nI_add i 1) ?_
  refine sld C hS (j := i + 1) (by omega) rfl dL_law_318 ?_
  refine lv_aload_n hx hb dL_law_319 rfl (lv_at hl 2 rfl) ?_
  refine lwS (As := [.ref (gc 0), .int (xs (i + 1)), .ref o1]) (rest := []) C J I hS (kL_stamp (gd_Lo (o := o1) J.1.1) (o := o1) (Or.inr rfl) (fun i hi => (J.2.2.1 i hi).1) _ (hC gc (gd_Lg J.1.1)) (fun X h9 => by have h8 := hE3 X h9; simpa using h8) f) (vx_cwSW 3 hts gL_law_L_stamp rfl rfl rfl hdL_stamp.2 ⟨(Nat.le_of_ble_eq_true rfl), (Nat.le_of_ble_eq_true rfl)⟩) rfl hl.1 rfl (Nat.le_of_ble_eq_true rfl) dL_law_320 ⟨Nat.le_trans (Nat.add_le_add_left (Nat.le_of_ble_eq_true rfl) cells) hcr, Nat.le_trans (Nat.add_le_add_left (Nat.le_of_ble_eq_true rfl) slots) hsr⟩ (fun H locs I hS => ?_)
  have hcr2 : cells + rmL_stamp.cells ≤ room_1.cells := Nat.le_trans (Nat.add_le_add_left (Nat.le_of_ble_eq_true rfl) cells) hcr
  have hsr2 : slots + rmL_stamp.slots ≤ room_1.slots := Nat.le_trans (Nat.add_le_add_left (Nat.le_of_ble_eq_true rfl) slots) hsr
  refine lv_istore (lv' := [(6, .int (cE [xIO] E)), (5, .int (nI i)), (4, .ref o2), (3, .ref o1), (2, .ref (gm 0)), (1, .ref (gc 0)), (0, .ref b)]) hx hb dL_law_323 hl (by decide) rfl (fun ls hl => ?_)
  refine lv_aload_n hx hb dL_law_325 rfl (lv_at hl 4 rfl) ?_
  refine lv_aload_n hx hb dL_law_326 rfl (lv_at hl 6 rfl) ?_
  refine lv_iload hx hb dL_law_327 (lv_at hl 1 rfl) ?_
  refine lv_iconst (v := 1) hx hb dL_law_329 (by decide) ?_
  refine lv_iadd hx hb dL_law_330 ?_
  refine tpi (y := nI (i + 1)) (nI_add i 1) ?_
  refine sld C hS (j := i + 1) (by omega) rfl dL_law_331 ?_
  refine lmI (As := [.int (xs (i + 1))]) (rest := []) C J I hS (hM gm (gd_Lm J.1.2.1)) (cwV 1 hts gL_law_X5_stamp rfl rfl rfl hdX5_stamp ⟨(Nat.le_of_ble_eq_true rfl), (Nat.le_of_ble_eq_true rfl)⟩) rfl rfl rfl hl.1 rfl (Nat.le_of_ble_eq_true rfl) dL_law_332 ⟨hcr2, hsr2⟩ (fun H locs I hS => ?_)
  refine lv_istore (lv' := [(7, .int rM), (6, .int (cE [xIO] E)), (5, .int (nI i)), (4, .ref o2), (3, .ref o1), (2, .ref (gm 0)), (1, .ref (gc 0)), (0, .ref b)]) hx hb dL_law_335 hl (by decide) rfl (fun ls hl => ?_)
  refine lv_aload_n hx hb dL_law_337 rfl (lv_at hl 5 rfl) ?_
  refine lmI (As := []) (rest := []) C J I hS (kX5_thrown (gd_Lm J.1.2.1) v2) (cwV 0 hts gL_law_X5_thrown rfl rfl rfl hdX5_thrown ⟨(Nat.le_of_ble_eq_true rfl), (Nat.le_of_ble_eq_true rfl)⟩) rfl rfl rfl hl.1 rfl (Nat.le_of_ble_eq_true rfl) dL_law_338 ⟨hcr2, hsr2⟩ (fun H locs I hS => ?_)
  refine lv_iload hx hb dL_law_341 (lv_at hl 1 rfl) ?_
  refine lv_icmp_eq (tgt := 348) hx hb dL_law_343 (by decide) (fun c1 => ?_) (fun c1 => ?_)
  · skip
    refine lv_iload hx hb dL_law_348 (lv_at hl 1 rfl) ?_
    refine lv_if_ne (tgt := 365) hx hb dL_law_350 (by decide) (fun c2 => ?_) (fun c2 => ?_)
    · skip
      refine lv_goto (tgt := 1187) hx hb dL_law_365 (by decide) ?_
      refine W.widen (k := cells + 6) (n := slots + 36) (Nat.add_le_add_left (Nat.le_of_ble_eq_true rfl) cells) (Nat.add_le_add_left (Nat.le_of_ble_eq_true rfl) slots) ?_
      exact kk _ _ _ _ _ _ _ hR I hS (lv_sub hl [2, 3, 4, 5, 6, 7] rfl)
    · have hn9 := cE_0 c2 (by decide)
      subst hn9
      have he9 := heq rfl
      subst he9
      refine lv_aload_n hx hb dL_law_353 rfl (lv_at hl 4 rfl) ?_
      refine lv_iconst (v := 0) hx hb dL_law_354 (by decide) ?_
      refine va_lald hx hb C.2.2.1.1 I.2.2.1 0 1 rfl rfl (vin (n := 1) (by decide) (by decide) (show (0 : Int32) = nI 0 from rfl)) dL_law_355 ?_
      refine tpl (y := (r.toInt64)) rfl ?_
      refine lv_iload hx hb dL_law_356 (lv_at hl 0 rfl) ?_
      refine lv_i2l hx hb dL_law_358 rfl ?_
      refine W.lcmp hx hb dL_law_359 ?_
      refine bleq (tgt := 365) hx hb dL_law_360 (by decide) (fun c3 => ?_) (fun c3 => ?_)
      · skip
        refine lv_goto (tgt := 1187) hx hb dL_law_365 (by decide) ?_
        refine W.widen (k := cells + 6) (n := slots + 36) (Nat.add_le_add_left (Nat.le_of_ble_eq_true rfl) cells) (Nat.add_le_add_left (Nat.le_of_ble_eq_true rfl) slots) ?_
        exact kk _ _ _ _ _ _ _ hR I hS (lv_sub hl [2, 3, 4, 5, 6, 7] rfl)
      · exact absurd (by first | rfl | exact if_pos c4 | exact if_neg c4) c3
  · exact absurd hthr c1

set_option maxHeartbeats 4000000 in
set_option maxRecDepth 100000 in
theorem law_isBefore {p : Program} {l : Launch} {e : Env} {s : State} {m : MethodId} {below : List Frame} {meth : Method} {c : Code} {H : Heap} {locs : List Loc} {cells slots : Nat} {Q : State → Prop} {b L i : Nat} {xs : Nat → Int32} {ls : Array Slot} {D : va_G} {K : Nat → ClassId} {gc gm : Nat → Nat} {o1 o2 : Nat} {u : CU} {v : MU} {f : AL} {fd : Nat → UInt64} {Rel : CU → MU → Prop}
    (C : LC p l s m meth c b L xs D K) (J : LD s gc gm o1 o2) (I : LI D K gc gm o1 o2 u v f fd H) (hS : va_S (A0 s) s.heap H locs) (hi : i + 4 ≤ L) (hcr : cells + 6 ≤ room_1.cells) (hsr : slots + 36 ≤ room_1.slots) (hl : lv_has ls 8 [(5, .int (nI i)), (4, .ref o2), (3, .ref o1), (2, .ref (gm 0)), (1, .ref (gc 0)), (0, .ref b)]) (hop : OPi l D K yX4_isBefore wsX4_isBefore rmX4_isBefore yX5_isBefore wsX5_isBefore rmX5_isBefore [xIA] Rel [.int (xs (i + 1)), .int (xs (i + 2))] u v)
    (kk : ∀ (u' : CU) (v' : MU) (f' : AL) (fd' : Nat → UInt64) (H1 : Heap) (locs1 : List Loc) (ls1 : Array Slot), Rel u' v' → LI D K gc gm o1 o2 u' v' f' fd' H1 → va_S (A0 s) s.heap H1 locs1 → lv_has ls1 8 [(5, .int (nI i)), (4, .ref o2), (3, .ref o1), (2, .ref (gm 0)), (1, .ref (gc 0)), (0, .ref b)] → W p l e room_1 s m #[.ref b] below meth c H1 locs1 (cells + 6) (slots + 36) Q (F0 m 1187 ls1 [])) : W p l e room_1 s m #[.ref b] below meth c H locs cells slots Q (F0 m 368 ls []) := by
  obtain ⟨hx, hb, hml, hown, hts⟩ := C.1
  have hL9 : L ≤ 2048 := C.2.1.2.2
  obtain ⟨u2, v2, E, r, rM, hC, hM, hE3, hthr, heq, hR⟩ := hop
  refine lv_aload_n hx hb dL_law_368 rfl (lv_at hl 4 rfl) ?_
  refine lv_aload_n hx hb dL_law_369 rfl (lv_at hl 5 rfl) ?_
  refine lv_iload hx hb dL_law_370 (lv_at hl 0 rfl) ?_
  refine lv_iconst (v := 1) hx hb dL_law_372 (by decide) ?_
  refine lv_iadd hx hb dL_law_373 ?_
  refine tpi (y := nI (i + 1)) (nI_add i 1) ?_
  refine sld C hS (j := i + 1) (by omega) rfl dL_law_374 ?_
  refine lv_aload_n hx hb dL_law_375 rfl (lv_at hl 5 rfl) ?_
  refine lv_iload hx hb dL_law_376 (lv_at hl 0 rfl) ?_
  refine lv_iconst (v := 2) hx hb dL_law_378 (by decide) ?_
  refine lv_iadd hx hb dL_law_379 ?_
  refine tpi (y := nI (i + 2)) (nI_add i 2) ?_
  refine sld C hS (j := i + 2) (by omega) rfl dL_law_380 ?_
  refine lv_aload_n hx hb dL_law_381 rfl (lv_at hl 2 rfl) ?_
  refine lwS (As := [.ref (gc 0), .int (xs (i + 1)), .int (xs (i + 2)), .ref o1]) (rest := []) C J I hS (kL_isBefore (gd_Lo (o := o1) J.1.1) (o := o1) (Or.inr rfl) (fun i hi => (J.2.2.1 i hi).1) _ _ (hC gc (gd_Lg J.1.1)) (fun X h9 => by have h8 := hE3 X h9; simpa using h8) f) (vx_cwSW 4 hts gL_law_L_isBefore rfl rfl rfl hdL_isBefore.2 ⟨(Nat.le_of_ble_eq_true rfl), (Nat.le_of_ble_eq_true rfl)⟩) rfl hl.1 rfl (Nat.le_of_ble_eq_true rfl) dL_law_382 ⟨Nat.le_trans (Nat.add_le_add_left (Nat.le_of_ble_eq_true rfl) cells) hcr, Nat.le_trans (Nat.add_le_add_left (Nat.le_of_ble_eq_true rfl) slots) hsr⟩ (fun H locs I hS => ?_)
  have hcr2 : cells + rmL_isBefore.cells ≤ room_1.cells := Nat.le_trans (Nat.add_le_add_left (Nat.le_of_ble_eq_true rfl) cells) hcr
  have hsr2 : slots + rmL_isBefore.slots ≤ room_1.slots := Nat.le_trans (Nat.add_le_add_left (Nat.le_of_ble_eq_true rfl) slots) hsr
  refine lv_istore (lv' := [(6, .int (cE [xIA] E)), (5, .int (nI i)), (4, .ref o2), (3, .ref o1), (2, .ref (gm 0)), (1, .ref (gc 0)), (0, .ref b)]) hx hb dL_law_385 hl (by decide) rfl (fun ls hl => ?_)
  refine lv_aload_n hx hb dL_law_387 rfl (lv_at hl 4 rfl) ?_
  refine lv_aload_n hx hb dL_law_388 rfl (lv_at hl 6 rfl) ?_
  refine lv_iload hx hb dL_law_389 (lv_at hl 1 rfl) ?_
  refine lv_iconst (v := 1) hx hb dL_law_391 (by decide) ?_
  refine lv_iadd hx hb dL_law_392 ?_
  refine tpi (y := nI (i + 1)) (nI_add i 1) ?_
  refine sld C hS (j := i + 1) (by omega) rfl dL_law_393 ?_
  refine lv_aload_n hx hb dL_law_394 rfl (lv_at hl 6 rfl) ?_
  refine lv_iload hx hb dL_law_395 (lv_at hl 1 rfl) ?_
  refine lv_iconst (v := 2) hx hb dL_law_397 (by decide) ?_
  refine lv_iadd hx hb dL_law_398 ?_
  refine tpi (y := nI (i + 2)) (nI_add i 2) ?_
  refine sld C hS (j := i + 2) (by omega) rfl dL_law_399 ?_
  refine lmI (As := [.int (xs (i + 1)), .int (xs (i + 2))]) (rest := []) C J I hS (hM gm (gd_Lm J.1.2.1)) (cwV 2 hts gL_law_X5_isBefore rfl rfl rfl hdX5_isBefore ⟨(Nat.le_of_ble_eq_true rfl), (Nat.le_of_ble_eq_true rfl)⟩) rfl rfl rfl hl.1 rfl (Nat.le_of_ble_eq_true rfl) dL_law_400 ⟨hcr2, hsr2⟩ (fun H locs I hS => ?_)
  refine lv_istore (lv' := [(7, .int rM), (6, .int (cE [xIA] E)), (5, .int (nI i)), (4, .ref o2), (3, .ref o1), (2, .ref (gm 0)), (1, .ref (gc 0)), (0, .ref b)]) hx hb dL_law_403 hl (by decide) rfl (fun ls hl => ?_)
  refine lv_aload_n hx hb dL_law_405 rfl (lv_at hl 5 rfl) ?_
  refine lmI (As := []) (rest := []) C J I hS (kX5_thrown (gd_Lm J.1.2.1) v2) (cwV 0 hts gL_law_X5_thrown rfl rfl rfl hdX5_thrown ⟨(Nat.le_of_ble_eq_true rfl), (Nat.le_of_ble_eq_true rfl)⟩) rfl rfl rfl hl.1 rfl (Nat.le_of_ble_eq_true rfl) dL_law_406 ⟨hcr2, hsr2⟩ (fun H locs I hS => ?_)
  refine lv_iload hx hb dL_law_409 (lv_at hl 1 rfl) ?_
  refine lv_icmp_eq (tgt := 416) hx hb dL_law_411 (by decide) (fun c1 => ?_) (fun c1 => ?_)
  · skip
    refine lv_iload hx hb dL_law_416 (lv_at hl 1 rfl) ?_
    refine lv_if_ne (tgt := 440) hx hb dL_law_418 (by decide) (fun c2 => ?_) (fun c2 => ?_)
    · skip
      refine lv_goto (tgt := 1187) hx hb dL_law_440 (by decide) ?_
      refine W.widen (k := cells + 6) (n := slots + 36) (Nat.add_le_add_left (Nat.le_of_ble_eq_true rfl) cells) (Nat.add_le_add_left (Nat.le_of_ble_eq_true rfl) slots) ?_
      exact kk _ _ _ _ _ _ _ hR I hS (lv_sub hl [2, 3, 4, 5, 6, 7] rfl)
    · have hn9 := cE_0 c2 (by decide)
      subst hn9
      have he9 := heq rfl
      subst he9
      refine lv_aload_n hx hb dL_law_421 rfl (lv_at hl 4 rfl) ?_
      refine lv_iconst (v := 0) hx hb dL_law_422 (by decide) ?_
      refine va_lald hx hb C.2.2.1.1 I.2.2.1 0 1 rfl rfl (vin (n := 1) (by decide) (by decide) (show (0 : Int32) = nI 0 from rfl)) dL_law_423 ?_
      refine tpl (y := (if r = 0 then 0 else 1 : Int64)) rfl ?_
      refine lv_iload hx hb dL_law_424 (lv_at hl 0 rfl) ?_
      refine lv_if_eq (tgt := 433) hx hb dL_law_426 (by decide) (fun c4 => ?_) (fun c4 => ?_)
      · skip
        refine lv_lconst (v := 0) hx hb dL_law_433 (by decide) ?_
        refine W.lcmp hx hb dL_law_434 ?_
        refine bleq (tgt := 440) hx hb dL_law_435 (by decide) (fun c3 => ?_) (fun c3 => ?_)
        · skip
          refine lv_goto (tgt := 1187) hx hb dL_law_440 (by decide) ?_
          refine W.widen (k := cells + 6) (n := slots + 36) (Nat.add_le_add_left (Nat.le_of_ble_eq_true rfl) cells) (Nat.add_le_add_left (Nat.le_of_ble_eq_true rfl) slots) ?_
          exact kk _ _ _ _ _ _ _ hR I hS (lv_sub hl [2, 3, 4, 5, 6, 7] rfl)
        · exact absurd (by first | rfl | exact if_pos c4 | exact if_neg c4) c3
      · skip
        refine lv_lconst (v := 1) hx hb dL_law_429 (by decide) ?_
        refine lv_goto (tgt := 434) hx hb dL_law_430 (by decide) ?_
        refine W.lcmp hx hb dL_law_434 ?_
        refine bleq (tgt := 440) hx hb dL_law_435 (by decide) (fun c3 => ?_) (fun c3 => ?_)
        · skip
          refine lv_goto (tgt := 1187) hx hb dL_law_440 (by decide) ?_
          refine W.widen (k := cells + 6) (n := slots + 36) (Nat.add_le_add_left (Nat.le_of_ble_eq_true rfl) cells) (Nat.add_le_add_left (Nat.le_of_ble_eq_true rfl) slots) ?_
          exact kk _ _ _ _ _ _ _ hR I hS (lv_sub hl [2, 3, 4, 5, 6, 7] rfl)
        · exact absurd (by first | rfl | exact if_pos c4 | exact if_neg c4) c3
  · exact absurd hthr c1

set_option maxHeartbeats 4000000 in
set_option maxRecDepth 100000 in
theorem law_read {p : Program} {l : Launch} {e : Env} {s : State} {m : MethodId} {below : List Frame} {meth : Method} {c : Code} {H : Heap} {locs : List Loc} {cells slots : Nat} {Q : State → Prop} {b L i : Nat} {xs : Nat → Int32} {ls : Array Slot} {D : va_G} {K : Nat → ClassId} {gc gm : Nat → Nat} {o1 o2 : Nat} {u : CU} {v : MU} {f : AL} {fd : Nat → UInt64} {Rel : CU → MU → Prop}
    (C : LC p l s m meth c b L xs D K) (J : LD s gc gm o1 o2) (I : LI D K gc gm o1 o2 u v f fd H) (hS : va_S (A0 s) s.heap H locs) (hi : i + 4 ≤ L) (hcr : cells + 6 ≤ room_1.cells) (hsr : slots + 36 ≤ room_1.slots) (hl : lv_has ls 8 [(5, .int (nI i)), (4, .ref o2), (3, .ref o1), (2, .ref (gm 0)), (1, .ref (gc 0)), (0, .ref b)]) (hop : OPi l D K yX4_read wsX4_read rmX4_read yX5_read wsX5_read rmX5_read [xIO, xIA, xIS] Rel [.int (xs (i + 1)), .int (xs (i + 2))] u v)
    (kk : ∀ (u' : CU) (v' : MU) (f' : AL) (fd' : Nat → UInt64) (H1 : Heap) (locs1 : List Loc) (ls1 : Array Slot), Rel u' v' → LI D K gc gm o1 o2 u' v' f' fd' H1 → va_S (A0 s) s.heap H1 locs1 → lv_has ls1 8 [(5, .int (nI i)), (4, .ref o2), (3, .ref o1), (2, .ref (gm 0)), (1, .ref (gc 0)), (0, .ref b)] → W p l e room_1 s m #[.ref b] below meth c H1 locs1 (cells + 6) (slots + 36) Q (F0 m 1187 ls1 [])) : W p l e room_1 s m #[.ref b] below meth c H locs cells slots Q (F0 m 443 ls []) := by
  obtain ⟨hx, hb, hml, hown, hts⟩ := C.1
  have hL9 : L ≤ 2048 := C.2.1.2.2
  obtain ⟨u2, v2, E, r, rM, hC, hM, hE3, hthr, heq, hR⟩ := hop
  refine lv_aload_n hx hb dL_law_443 rfl (lv_at hl 4 rfl) ?_
  refine lv_aload_n hx hb dL_law_444 rfl (lv_at hl 5 rfl) ?_
  refine lv_iload hx hb dL_law_445 (lv_at hl 0 rfl) ?_
  refine lv_iconst (v := 1) hx hb dL_law_447 (by decide) ?_
  refine lv_iadd hx hb dL_law_448 ?_
  refine tpi (y := nI (i + 1)) (nI_add i 1) ?_
  refine sld C hS (j := i + 1) (by omega) rfl dL_law_449 ?_
  refine lv_aload_n hx hb dL_law_450 rfl (lv_at hl 5 rfl) ?_
  refine lv_iload hx hb dL_law_451 (lv_at hl 0 rfl) ?_
  refine lv_iconst (v := 2) hx hb dL_law_453 (by decide) ?_
  refine lv_iadd hx hb dL_law_454 ?_
  refine tpi (y := nI (i + 2)) (nI_add i 2) ?_
  refine sld C hS (j := i + 2) (by omega) rfl dL_law_455 ?_
  refine lv_aload_n hx hb dL_law_456 rfl (lv_at hl 2 rfl) ?_
  refine lwS (As := [.ref (gc 0), .int (xs (i + 1)), .int (xs (i + 2)), .ref o1]) (rest := []) C J I hS (kL_read (gd_Lo (o := o1) J.1.1) (o := o1) (Or.inr rfl) (fun i hi => (J.2.2.1 i hi).1) _ _ (hC gc (gd_Lg J.1.1)) (fun X h9 => by have h8 := hE3 X h9; simpa using h8) f) (vx_cwSW 4 hts gL_law_L_read rfl rfl rfl hdL_read.2 ⟨(Nat.le_of_ble_eq_true rfl), (Nat.le_of_ble_eq_true rfl)⟩) rfl hl.1 rfl (Nat.le_of_ble_eq_true rfl) dL_law_457 ⟨Nat.le_trans (Nat.add_le_add_left (Nat.le_of_ble_eq_true rfl) cells) hcr, Nat.le_trans (Nat.add_le_add_left (Nat.le_of_ble_eq_true rfl) slots) hsr⟩ (fun H locs I hS => ?_)
  have hcr2 : cells + rmL_read.cells ≤ room_1.cells := Nat.le_trans (Nat.add_le_add_left (Nat.le_of_ble_eq_true rfl) cells) hcr
  have hsr2 : slots + rmL_read.slots ≤ room_1.slots := Nat.le_trans (Nat.add_le_add_left (Nat.le_of_ble_eq_true rfl) slots) hsr
  refine lv_istore (lv' := [(6, .int (cE [xIO, xIA, xIS] E)), (5, .int (nI i)), (4, .ref o2), (3, .ref o1), (2, .ref (gm 0)), (1, .ref (gc 0)), (0, .ref b)]) hx hb dL_law_460 hl (by decide) rfl (fun ls hl => ?_)
  refine lv_aload_n hx hb dL_law_462 rfl (lv_at hl 4 rfl) ?_
  refine lv_aload_n hx hb dL_law_463 rfl (lv_at hl 6 rfl) ?_
  refine lv_iload hx hb dL_law_464 (lv_at hl 1 rfl) ?_
  refine lv_iconst (v := 1) hx hb dL_law_466 (by decide) ?_
  refine lv_iadd hx hb dL_law_467 ?_
  refine tpi (y := nI (i + 1)) (nI_add i 1) ?_
  refine sld C hS (j := i + 1) (by omega) rfl dL_law_468 ?_
  refine lv_aload_n hx hb dL_law_469 rfl (lv_at hl 6 rfl) ?_
  refine lv_iload hx hb dL_law_470 (lv_at hl 1 rfl) ?_
  refine lv_iconst (v := 2) hx hb dL_law_472 (by decide) ?_
  refine lv_iadd hx hb dL_law_473 ?_
  refine tpi (y := nI (i + 2)) (nI_add i 2) ?_
  refine sld C hS (j := i + 2) (by omega) rfl dL_law_474 ?_
  refine lmI (As := [.int (xs (i + 1)), .int (xs (i + 2))]) (rest := []) C J I hS (hM gm (gd_Lm J.1.2.1)) (cwV 2 hts gL_law_X5_read rfl rfl rfl hdX5_read ⟨(Nat.le_of_ble_eq_true rfl), (Nat.le_of_ble_eq_true rfl)⟩) rfl rfl rfl hl.1 rfl (Nat.le_of_ble_eq_true rfl) dL_law_475 ⟨hcr2, hsr2⟩ (fun H locs I hS => ?_)
  refine lv_istore (lv' := [(7, .int rM), (6, .int (cE [xIO, xIA, xIS] E)), (5, .int (nI i)), (4, .ref o2), (3, .ref o1), (2, .ref (gm 0)), (1, .ref (gc 0)), (0, .ref b)]) hx hb dL_law_478 hl (by decide) rfl (fun ls hl => ?_)
  refine lv_aload_n hx hb dL_law_480 rfl (lv_at hl 5 rfl) ?_
  refine lmI (As := []) (rest := []) C J I hS (kX5_thrown (gd_Lm J.1.2.1) v2) (cwV 0 hts gL_law_X5_thrown rfl rfl rfl hdX5_thrown ⟨(Nat.le_of_ble_eq_true rfl), (Nat.le_of_ble_eq_true rfl)⟩) rfl rfl rfl hl.1 rfl (Nat.le_of_ble_eq_true rfl) dL_law_481 ⟨hcr2, hsr2⟩ (fun H locs I hS => ?_)
  refine lv_iload hx hb dL_law_484 (lv_at hl 1 rfl) ?_
  refine lv_icmp_eq (tgt := 491) hx hb dL_law_486 (by decide) (fun c1 => ?_) (fun c1 => ?_)
  · skip
    refine lv_iload hx hb dL_law_491 (lv_at hl 1 rfl) ?_
    refine lv_if_ne (tgt := 508) hx hb dL_law_493 (by decide) (fun c2 => ?_) (fun c2 => ?_)
    · skip
      refine lv_goto (tgt := 1187) hx hb dL_law_508 (by decide) ?_
      refine W.widen (k := cells + 6) (n := slots + 36) (Nat.add_le_add_left (Nat.le_of_ble_eq_true rfl) cells) (Nat.add_le_add_left (Nat.le_of_ble_eq_true rfl) slots) ?_
      exact kk _ _ _ _ _ _ _ hR I hS (lv_sub hl [2, 3, 4, 5, 6, 7] rfl)
    · have hn9 := cE_0 c2 (by decide)
      subst hn9
      have he9 := heq rfl
      subst he9
      refine lv_aload_n hx hb dL_law_496 rfl (lv_at hl 4 rfl) ?_
      refine lv_iconst (v := 0) hx hb dL_law_497 (by decide) ?_
      refine va_lald hx hb C.2.2.1.1 I.2.2.1 0 1 rfl rfl (vin (n := 1) (by decide) (by decide) (show (0 : Int32) = nI 0 from rfl)) dL_law_498 ?_
      refine tpl (y := (r.toInt64)) rfl ?_
      refine lv_iload hx hb dL_law_499 (lv_at hl 0 rfl) ?_
      refine lv_i2l hx hb dL_law_501 rfl ?_
      refine W.lcmp hx hb dL_law_502 ?_
      refine bleq (tgt := 508) hx hb dL_law_503 (by decide) (fun c3 => ?_) (fun c3 => ?_)
      · skip
        refine lv_goto (tgt := 1187) hx hb dL_law_508 (by decide) ?_
        refine W.widen (k := cells + 6) (n := slots + 36) (Nat.add_le_add_left (Nat.le_of_ble_eq_true rfl) cells) (Nat.add_le_add_left (Nat.le_of_ble_eq_true rfl) slots) ?_
        exact kk _ _ _ _ _ _ _ hR I hS (lv_sub hl [2, 3, 4, 5, 6, 7] rfl)
      · exact absurd (by first | rfl | exact if_pos c4 | exact if_neg c4) c3
  · exact absurd hthr c1

set_option maxHeartbeats 4000000 in
set_option maxRecDepth 100000 in
theorem law_readPlain {p : Program} {l : Launch} {e : Env} {s : State} {m : MethodId} {below : List Frame} {meth : Method} {c : Code} {H : Heap} {locs : List Loc} {cells slots : Nat} {Q : State → Prop} {b L i : Nat} {xs : Nat → Int32} {ls : Array Slot} {D : va_G} {K : Nat → ClassId} {gc gm : Nat → Nat} {o1 o2 : Nat} {u : CU} {v : MU} {f : AL} {fd : Nat → UInt64} {Rel : CU → MU → Prop}
    (C : LC p l s m meth c b L xs D K) (J : LD s gc gm o1 o2) (I : LI D K gc gm o1 o2 u v f fd H) (hS : va_S (A0 s) s.heap H locs) (hi : i + 4 ≤ L) (hcr : cells + 6 ≤ room_1.cells) (hsr : slots + 36 ≤ room_1.slots) (hl : lv_has ls 8 [(5, .int (nI i)), (4, .ref o2), (3, .ref o1), (2, .ref (gm 0)), (1, .ref (gc 0)), (0, .ref b)]) (hop : OPi l D K yX4_readPlain wsX4_readPlain rmX4_readPlain yX5_readPlain wsX5_readPlain rmX5_readPlain [xIO, xIA, xIS] Rel [.int (xs (i + 1)), .int (xs (i + 2))] u v)
    (kk : ∀ (u' : CU) (v' : MU) (f' : AL) (fd' : Nat → UInt64) (H1 : Heap) (locs1 : List Loc) (ls1 : Array Slot), Rel u' v' → LI D K gc gm o1 o2 u' v' f' fd' H1 → va_S (A0 s) s.heap H1 locs1 → lv_has ls1 8 [(5, .int (nI i)), (4, .ref o2), (3, .ref o1), (2, .ref (gm 0)), (1, .ref (gc 0)), (0, .ref b)] → W p l e room_1 s m #[.ref b] below meth c H1 locs1 (cells + 6) (slots + 36) Q (F0 m 1187 ls1 [])) : W p l e room_1 s m #[.ref b] below meth c H locs cells slots Q (F0 m 511 ls []) := by
  obtain ⟨hx, hb, hml, hown, hts⟩ := C.1
  have hL9 : L ≤ 2048 := C.2.1.2.2
  obtain ⟨u2, v2, E, r, rM, hC, hM, hE3, hthr, heq, hR⟩ := hop
  refine lv_aload_n hx hb dL_law_511 rfl (lv_at hl 4 rfl) ?_
  refine lv_aload_n hx hb dL_law_512 rfl (lv_at hl 5 rfl) ?_
  refine lv_iload hx hb dL_law_513 (lv_at hl 0 rfl) ?_
  refine lv_iconst (v := 1) hx hb dL_law_515 (by decide) ?_
  refine lv_iadd hx hb dL_law_516 ?_
  refine tpi (y := nI (i + 1)) (nI_add i 1) ?_
  refine sld C hS (j := i + 1) (by omega) rfl dL_law_517 ?_
  refine lv_aload_n hx hb dL_law_518 rfl (lv_at hl 5 rfl) ?_
  refine lv_iload hx hb dL_law_519 (lv_at hl 0 rfl) ?_
  refine lv_iconst (v := 2) hx hb dL_law_521 (by decide) ?_
  refine lv_iadd hx hb dL_law_522 ?_
  refine tpi (y := nI (i + 2)) (nI_add i 2) ?_
  refine sld C hS (j := i + 2) (by omega) rfl dL_law_523 ?_
  refine lv_aload_n hx hb dL_law_524 rfl (lv_at hl 2 rfl) ?_
  refine lwS (As := [.ref (gc 0), .int (xs (i + 1)), .int (xs (i + 2)), .ref o1]) (rest := []) C J I hS (kL_readPlain (gd_Lo (o := o1) J.1.1) (o := o1) (Or.inr rfl) (fun i hi => (J.2.2.1 i hi).1) _ _ (hC gc (gd_Lg J.1.1)) (fun X h9 => by have h8 := hE3 X h9; simpa using h8) f) (vx_cwSW 4 hts gL_law_L_readPlain rfl rfl rfl hdL_readPlain.2 ⟨(Nat.le_of_ble_eq_true rfl), (Nat.le_of_ble_eq_true rfl)⟩) rfl hl.1 rfl (Nat.le_of_ble_eq_true rfl) dL_law_525 ⟨Nat.le_trans (Nat.add_le_add_left (Nat.le_of_ble_eq_true rfl) cells) hcr, Nat.le_trans (Nat.add_le_add_left (Nat.le_of_ble_eq_true rfl) slots) hsr⟩ (fun H locs I hS => ?_)
  have hcr2 : cells + rmL_readPlain.cells ≤ room_1.cells := Nat.le_trans (Nat.add_le_add_left (Nat.le_of_ble_eq_true rfl) cells) hcr
  have hsr2 : slots + rmL_readPlain.slots ≤ room_1.slots := Nat.le_trans (Nat.add_le_add_left (Nat.le_of_ble_eq_true rfl) slots) hsr
  refine lv_istore (lv' := [(6, .int (cE [xIO, xIA, xIS] E)), (5, .int (nI i)), (4, .ref o2), (3, .ref o1), (2, .ref (gm 0)), (1, .ref (gc 0)), (0, .ref b)]) hx hb dL_law_528 hl (by decide) rfl (fun ls hl => ?_)
  refine lv_aload_n hx hb dL_law_530 rfl (lv_at hl 4 rfl) ?_
  refine lv_aload_n hx hb dL_law_531 rfl (lv_at hl 6 rfl) ?_
  refine lv_iload hx hb dL_law_532 (lv_at hl 1 rfl) ?_
  refine lv_iconst (v := 1) hx hb dL_law_534 (by decide) ?_
  refine lv_iadd hx hb dL_law_535 ?_
  refine tpi (y := nI (i + 1)) (nI_add i 1) ?_
  refine sld C hS (j := i + 1) (by omega) rfl dL_law_536 ?_
  refine lv_aload_n hx hb dL_law_537 rfl (lv_at hl 6 rfl) ?_
  refine lv_iload hx hb dL_law_538 (lv_at hl 1 rfl) ?_
  refine lv_iconst (v := 2) hx hb dL_law_540 (by decide) ?_
  refine lv_iadd hx hb dL_law_541 ?_
  refine tpi (y := nI (i + 2)) (nI_add i 2) ?_
  refine sld C hS (j := i + 2) (by omega) rfl dL_law_542 ?_
  refine lmI (As := [.int (xs (i + 1)), .int (xs (i + 2))]) (rest := []) C J I hS (hM gm (gd_Lm J.1.2.1)) (cwV 2 hts gL_law_X5_readPlain rfl rfl rfl hdX5_readPlain ⟨(Nat.le_of_ble_eq_true rfl), (Nat.le_of_ble_eq_true rfl)⟩) rfl rfl rfl hl.1 rfl (Nat.le_of_ble_eq_true rfl) dL_law_543 ⟨hcr2, hsr2⟩ (fun H locs I hS => ?_)
  refine lv_istore (lv' := [(7, .int rM), (6, .int (cE [xIO, xIA, xIS] E)), (5, .int (nI i)), (4, .ref o2), (3, .ref o1), (2, .ref (gm 0)), (1, .ref (gc 0)), (0, .ref b)]) hx hb dL_law_546 hl (by decide) rfl (fun ls hl => ?_)
  refine lv_aload_n hx hb dL_law_548 rfl (lv_at hl 5 rfl) ?_
  refine lmI (As := []) (rest := []) C J I hS (kX5_thrown (gd_Lm J.1.2.1) v2) (cwV 0 hts gL_law_X5_thrown rfl rfl rfl hdX5_thrown ⟨(Nat.le_of_ble_eq_true rfl), (Nat.le_of_ble_eq_true rfl)⟩) rfl rfl rfl hl.1 rfl (Nat.le_of_ble_eq_true rfl) dL_law_549 ⟨hcr2, hsr2⟩ (fun H locs I hS => ?_)
  refine lv_iload hx hb dL_law_552 (lv_at hl 1 rfl) ?_
  refine lv_icmp_eq (tgt := 559) hx hb dL_law_554 (by decide) (fun c1 => ?_) (fun c1 => ?_)
  · skip
    refine lv_iload hx hb dL_law_559 (lv_at hl 1 rfl) ?_
    refine lv_if_ne (tgt := 576) hx hb dL_law_561 (by decide) (fun c2 => ?_) (fun c2 => ?_)
    · skip
      refine lv_goto (tgt := 1187) hx hb dL_law_576 (by decide) ?_
      refine W.widen (k := cells + 6) (n := slots + 36) (Nat.add_le_add_left (Nat.le_of_ble_eq_true rfl) cells) (Nat.add_le_add_left (Nat.le_of_ble_eq_true rfl) slots) ?_
      exact kk _ _ _ _ _ _ _ hR I hS (lv_sub hl [2, 3, 4, 5, 6, 7] rfl)
    · have hn9 := cE_0 c2 (by decide)
      subst hn9
      have he9 := heq rfl
      subst he9
      refine lv_aload_n hx hb dL_law_564 rfl (lv_at hl 4 rfl) ?_
      refine lv_iconst (v := 0) hx hb dL_law_565 (by decide) ?_
      refine va_lald hx hb C.2.2.1.1 I.2.2.1 0 1 rfl rfl (vin (n := 1) (by decide) (by decide) (show (0 : Int32) = nI 0 from rfl)) dL_law_566 ?_
      refine tpl (y := (r.toInt64)) rfl ?_
      refine lv_iload hx hb dL_law_567 (lv_at hl 0 rfl) ?_
      refine lv_i2l hx hb dL_law_569 rfl ?_
      refine W.lcmp hx hb dL_law_570 ?_
      refine bleq (tgt := 576) hx hb dL_law_571 (by decide) (fun c3 => ?_) (fun c3 => ?_)
      · skip
        refine lv_goto (tgt := 1187) hx hb dL_law_576 (by decide) ?_
        refine W.widen (k := cells + 6) (n := slots + 36) (Nat.add_le_add_left (Nat.le_of_ble_eq_true rfl) cells) (Nat.add_le_add_left (Nat.le_of_ble_eq_true rfl) slots) ?_
        exact kk _ _ _ _ _ _ _ hR I hS (lv_sub hl [2, 3, 4, 5, 6, 7] rfl)
      · exact absurd (by first | rfl | exact if_pos c4 | exact if_neg c4) c3
  · exact absurd hthr c1

set_option maxHeartbeats 4000000 in
set_option maxRecDepth 100000 in
theorem law_write {p : Program} {l : Launch} {e : Env} {s : State} {m : MethodId} {below : List Frame} {meth : Method} {c : Code} {H : Heap} {locs : List Loc} {cells slots : Nat} {Q : State → Prop} {b L i : Nat} {xs : Nat → Int32} {ls : Array Slot} {D : va_G} {K : Nat → ClassId} {gc gm : Nat → Nat} {o1 o2 : Nat} {u : CU} {v : MU} {f : AL} {fd : Nat → UInt64} {Rel : CU → MU → Prop}
    (C : LC p l s m meth c b L xs D K) (J : LD s gc gm o1 o2) (I : LI D K gc gm o1 o2 u v f fd H) (hS : va_S (A0 s) s.heap H locs) (hi : i + 4 ≤ L) (hcr : cells + 6 ≤ room_1.cells) (hsr : slots + 36 ≤ room_1.slots) (hl : lv_has ls 8 [(5, .int (nI i)), (4, .ref o2), (3, .ref o1), (2, .ref (gm 0)), (1, .ref (gc 0)), (0, .ref b)]) (hop : OPi l D K yX4_write wsX4_write rmX4_write yX5_write wsX5_write rmX5_write [xIO, xIA, xIS] Rel [.int (xs (i + 1)), .int (xs (i + 2)), .int (xs (i + 3))] u v)
    (kk : ∀ (u' : CU) (v' : MU) (f' : AL) (fd' : Nat → UInt64) (H1 : Heap) (locs1 : List Loc) (ls1 : Array Slot), Rel u' v' → LI D K gc gm o1 o2 u' v' f' fd' H1 → va_S (A0 s) s.heap H1 locs1 → lv_has ls1 8 [(5, .int (nI i)), (4, .ref o2), (3, .ref o1), (2, .ref (gm 0)), (1, .ref (gc 0)), (0, .ref b)] → W p l e room_1 s m #[.ref b] below meth c H1 locs1 (cells + 6) (slots + 36) Q (F0 m 1187 ls1 [])) : W p l e room_1 s m #[.ref b] below meth c H locs cells slots Q (F0 m 579 ls []) := by
  obtain ⟨hx, hb, hml, hown, hts⟩ := C.1
  have hL9 : L ≤ 2048 := C.2.1.2.2
  obtain ⟨u2, v2, E, r, rM, hC, hM, hE3, hthr, heq, hR⟩ := hop
  refine lv_aload_n hx hb dL_law_579 rfl (lv_at hl 4 rfl) ?_
  refine lv_aload_n hx hb dL_law_580 rfl (lv_at hl 5 rfl) ?_
  refine lv_iload hx hb dL_law_581 (lv_at hl 0 rfl) ?_
  refine lv_iconst (v := 1) hx hb dL_law_583 (by decide) ?_
  refine lv_iadd hx hb dL_law_584 ?_
  refine tpi (y := nI (i + 1)) (nI_add i 1) ?_
  refine sld C hS (j := i + 1) (by omega) rfl dL_law_585 ?_
  refine lv_aload_n hx hb dL_law_586 rfl (lv_at hl 5 rfl) ?_
  refine lv_iload hx hb dL_law_587 (lv_at hl 0 rfl) ?_
  refine lv_iconst (v := 2) hx hb dL_law_589 (by decide) ?_
  refine lv_iadd hx hb dL_law_590 ?_
  refine tpi (y := nI (i + 2)) (nI_add i 2) ?_
  refine sld C hS (j := i + 2) (by omega) rfl dL_law_591 ?_
  refine lv_aload_n hx hb dL_law_592 rfl (lv_at hl 5 rfl) ?_
  refine lv_iload hx hb dL_law_593 (lv_at hl 0 rfl) ?_
  refine lv_iconst (v := 3) hx hb dL_law_595 (by decide) ?_
  refine lv_iadd hx hb dL_law_596 ?_
  refine tpi (y := nI (i + 3)) (nI_add i 3) ?_
  refine sld C hS (j := i + 3) (by omega) rfl dL_law_597 ?_
  refine lv_aload_n hx hb dL_law_598 rfl (lv_at hl 2 rfl) ?_
  refine lwS (As := [.ref (gc 0), .int (xs (i + 1)), .int (xs (i + 2)), .int (xs (i + 3)), .ref o1]) (rest := []) C J I hS (kL_write (gd_Lo (o := o1) J.1.1) (o := o1) (Or.inr rfl) (fun i hi => (J.2.2.1 i hi).1) _ _ _ (hC gc (gd_Lg J.1.1)) (fun X h9 => by have h8 := hE3 X h9; simpa using h8) f) (vx_cwSW 5 hts gL_law_L_write rfl rfl rfl hdL_write.2 ⟨(Nat.le_of_ble_eq_true rfl), (Nat.le_of_ble_eq_true rfl)⟩) rfl hl.1 rfl (Nat.le_of_ble_eq_true rfl) dL_law_599 ⟨Nat.le_trans (Nat.add_le_add_left (Nat.le_of_ble_eq_true rfl) cells) hcr, Nat.le_trans (Nat.add_le_add_left (Nat.le_of_ble_eq_true rfl) slots) hsr⟩ (fun H locs I hS => ?_)
  have hcr2 : cells + rmL_write.cells ≤ room_1.cells := Nat.le_trans (Nat.add_le_add_left (Nat.le_of_ble_eq_true rfl) cells) hcr
  have hsr2 : slots + rmL_write.slots ≤ room_1.slots := Nat.le_trans (Nat.add_le_add_left (Nat.le_of_ble_eq_true rfl) slots) hsr
  refine lv_istore (lv' := [(6, .int (cE [xIO, xIA, xIS] E)), (5, .int (nI i)), (4, .ref o2), (3, .ref o1), (2, .ref (gm 0)), (1, .ref (gc 0)), (0, .ref b)]) hx hb dL_law_602 hl (by decide) rfl (fun ls hl => ?_)
  refine lv_aload_n hx hb dL_law_604 rfl (lv_at hl 4 rfl) ?_
  refine lv_aload_n hx hb dL_law_605 rfl (lv_at hl 6 rfl) ?_
  refine lv_iload hx hb dL_law_606 (lv_at hl 1 rfl) ?_
  refine lv_iconst (v := 1) hx hb dL_law_608 (by decide) ?_
  refine lv_iadd hx hb dL_law_609 ?_
  refine tpi (y := nI (i + 1)) (nI_add i 1) ?_
  refine sld C hS (j := i + 1) (by omega) rfl dL_law_610 ?_
  refine lv_aload_n hx hb dL_law_611 rfl (lv_at hl 6 rfl) ?_
  refine lv_iload hx hb dL_law_612 (lv_at hl 1 rfl) ?_
  refine lv_iconst (v := 2) hx hb dL_law_614 (by decide) ?_
  refine lv_iadd hx hb dL_law_615 ?_
  refine tpi (y := nI (i + 2)) (nI_add i 2) ?_
  refine sld C hS (j := i + 2) (by omega) rfl dL_law_616 ?_
  refine lv_aload_n hx hb dL_law_617 rfl (lv_at hl 6 rfl) ?_
  refine lv_iload hx hb dL_law_618 (lv_at hl 1 rfl) ?_
  refine lv_iconst (v := 3) hx hb dL_law_620 (by decide) ?_
  refine lv_iadd hx hb dL_law_621 ?_
  refine tpi (y := nI (i + 3)) (nI_add i 3) ?_
  refine sld C hS (j := i + 3) (by omega) rfl dL_law_622 ?_
  refine lmI (As := [.int (xs (i + 1)), .int (xs (i + 2)), .int (xs (i + 3))]) (rest := []) C J I hS (hM gm (gd_Lm J.1.2.1)) (cwV 3 hts gL_law_X5_write rfl rfl rfl hdX5_write ⟨(Nat.le_of_ble_eq_true rfl), (Nat.le_of_ble_eq_true rfl)⟩) rfl rfl rfl hl.1 rfl (Nat.le_of_ble_eq_true rfl) dL_law_623 ⟨hcr2, hsr2⟩ (fun H locs I hS => ?_)
  refine lv_istore (lv' := [(7, .int rM), (6, .int (cE [xIO, xIA, xIS] E)), (5, .int (nI i)), (4, .ref o2), (3, .ref o1), (2, .ref (gm 0)), (1, .ref (gc 0)), (0, .ref b)]) hx hb dL_law_626 hl (by decide) rfl (fun ls hl => ?_)
  refine lv_aload_n hx hb dL_law_628 rfl (lv_at hl 5 rfl) ?_
  refine lmI (As := []) (rest := []) C J I hS (kX5_thrown (gd_Lm J.1.2.1) v2) (cwV 0 hts gL_law_X5_thrown rfl rfl rfl hdX5_thrown ⟨(Nat.le_of_ble_eq_true rfl), (Nat.le_of_ble_eq_true rfl)⟩) rfl rfl rfl hl.1 rfl (Nat.le_of_ble_eq_true rfl) dL_law_629 ⟨hcr2, hsr2⟩ (fun H locs I hS => ?_)
  refine lv_iload hx hb dL_law_632 (lv_at hl 1 rfl) ?_
  refine lv_icmp_eq (tgt := 639) hx hb dL_law_634 (by decide) (fun c1 => ?_) (fun c1 => ?_)
  · skip
    refine lv_iload hx hb dL_law_639 (lv_at hl 1 rfl) ?_
    refine lv_if_ne (tgt := 656) hx hb dL_law_641 (by decide) (fun c2 => ?_) (fun c2 => ?_)
    · skip
      refine lv_goto (tgt := 1187) hx hb dL_law_656 (by decide) ?_
      refine W.widen (k := cells + 6) (n := slots + 36) (Nat.add_le_add_left (Nat.le_of_ble_eq_true rfl) cells) (Nat.add_le_add_left (Nat.le_of_ble_eq_true rfl) slots) ?_
      exact kk _ _ _ _ _ _ _ hR I hS (lv_sub hl [2, 3, 4, 5, 6, 7] rfl)
    · have hn9 := cE_0 c2 (by decide)
      subst hn9
      have he9 := heq rfl
      subst he9
      refine lv_aload_n hx hb dL_law_644 rfl (lv_at hl 4 rfl) ?_
      refine lv_iconst (v := 0) hx hb dL_law_645 (by decide) ?_
      refine va_lald hx hb C.2.2.1.1 I.2.2.1 0 1 rfl rfl (vin (n := 1) (by decide) (by decide) (show (0 : Int32) = nI 0 from rfl)) dL_law_646 ?_
      refine tpl (y := (r.toInt64)) rfl ?_
      refine lv_iload hx hb dL_law_647 (lv_at hl 0 rfl) ?_
      refine lv_i2l hx hb dL_law_649 rfl ?_
      refine W.lcmp hx hb dL_law_650 ?_
      refine bleq (tgt := 656) hx hb dL_law_651 (by decide) (fun c3 => ?_) (fun c3 => ?_)
      · skip
        refine lv_goto (tgt := 1187) hx hb dL_law_656 (by decide) ?_
        refine W.widen (k := cells + 6) (n := slots + 36) (Nat.add_le_add_left (Nat.le_of_ble_eq_true rfl) cells) (Nat.add_le_add_left (Nat.le_of_ble_eq_true rfl) slots) ?_
        exact kk _ _ _ _ _ _ _ hR I hS (lv_sub hl [2, 3, 4, 5, 6, 7] rfl)
      · exact absurd (by first | rfl | exact if_pos c4 | exact if_neg c4) c3
  · exact absurd hthr c1

set_option maxHeartbeats 4000000 in
set_option maxRecDepth 100000 in
theorem law_delete {p : Program} {l : Launch} {e : Env} {s : State} {m : MethodId} {below : List Frame} {meth : Method} {c : Code} {H : Heap} {locs : List Loc} {cells slots : Nat} {Q : State → Prop} {b L i : Nat} {xs : Nat → Int32} {ls : Array Slot} {D : va_G} {K : Nat → ClassId} {gc gm : Nat → Nat} {o1 o2 : Nat} {u : CU} {v : MU} {f : AL} {fd : Nat → UInt64} {Rel : CU → MU → Prop}
    (C : LC p l s m meth c b L xs D K) (J : LD s gc gm o1 o2) (I : LI D K gc gm o1 o2 u v f fd H) (hS : va_S (A0 s) s.heap H locs) (hi : i + 4 ≤ L) (hcr : cells + 6 ≤ room_1.cells) (hsr : slots + 36 ≤ room_1.slots) (hl : lv_has ls 8 [(5, .int (nI i)), (4, .ref o2), (3, .ref o1), (2, .ref (gm 0)), (1, .ref (gc 0)), (0, .ref b)]) (hop : OPi l D K yX4_delete wsX4_delete rmX4_delete yX5_delete wsX5_delete rmX5_delete [xIO, xIA, xIS] Rel [.int (xs (i + 1)), .int (xs (i + 2))] u v)
    (kk : ∀ (u' : CU) (v' : MU) (f' : AL) (fd' : Nat → UInt64) (H1 : Heap) (locs1 : List Loc) (ls1 : Array Slot), Rel u' v' → LI D K gc gm o1 o2 u' v' f' fd' H1 → va_S (A0 s) s.heap H1 locs1 → lv_has ls1 8 [(5, .int (nI i)), (4, .ref o2), (3, .ref o1), (2, .ref (gm 0)), (1, .ref (gc 0)), (0, .ref b)] → W p l e room_1 s m #[.ref b] below meth c H1 locs1 (cells + 6) (slots + 36) Q (F0 m 1187 ls1 [])) : W p l e room_1 s m #[.ref b] below meth c H locs cells slots Q (F0 m 659 ls []) := by
  obtain ⟨hx, hb, hml, hown, hts⟩ := C.1
  have hL9 : L ≤ 2048 := C.2.1.2.2
  obtain ⟨u2, v2, E, r, rM, hC, hM, hE3, hthr, heq, hR⟩ := hop
  refine lv_aload_n hx hb dL_law_659 rfl (lv_at hl 4 rfl) ?_
  refine lv_aload_n hx hb dL_law_660 rfl (lv_at hl 5 rfl) ?_
  refine lv_iload hx hb dL_law_661 (lv_at hl 0 rfl) ?_
  refine lv_iconst (v := 1) hx hb dL_law_663 (by decide) ?_
  refine lv_iadd hx hb dL_law_664 ?_
  refine tpi (y := nI (i + 1)) (nI_add i 1) ?_
  refine sld C hS (j := i + 1) (by omega) rfl dL_law_665 ?_
  refine lv_aload_n hx hb dL_law_666 rfl (lv_at hl 5 rfl) ?_
  refine lv_iload hx hb dL_law_667 (lv_at hl 0 rfl) ?_
  refine lv_iconst (v := 2) hx hb dL_law_669 (by decide) ?_
  refine lv_iadd hx hb dL_law_670 ?_
  refine tpi (y := nI (i + 2)) (nI_add i 2) ?_
  refine sld C hS (j := i + 2) (by omega) rfl dL_law_671 ?_
  refine lv_aload_n hx hb dL_law_672 rfl (lv_at hl 2 rfl) ?_
  refine lwS (As := [.ref (gc 0), .int (xs (i + 1)), .int (xs (i + 2)), .ref o1]) (rest := []) C J I hS (kL_delete (gd_Lo (o := o1) J.1.1) (o := o1) (Or.inr rfl) (fun i hi => (J.2.2.1 i hi).1) _ _ (hC gc (gd_Lg J.1.1)) (fun X h9 => by have h8 := hE3 X h9; simpa using h8) f) (vx_cwSW 4 hts gL_law_L_delete rfl rfl rfl hdL_delete.2 ⟨(Nat.le_of_ble_eq_true rfl), (Nat.le_of_ble_eq_true rfl)⟩) rfl hl.1 rfl (Nat.le_of_ble_eq_true rfl) dL_law_673 ⟨Nat.le_trans (Nat.add_le_add_left (Nat.le_of_ble_eq_true rfl) cells) hcr, Nat.le_trans (Nat.add_le_add_left (Nat.le_of_ble_eq_true rfl) slots) hsr⟩ (fun H locs I hS => ?_)
  have hcr2 : cells + rmL_delete.cells ≤ room_1.cells := Nat.le_trans (Nat.add_le_add_left (Nat.le_of_ble_eq_true rfl) cells) hcr
  have hsr2 : slots + rmL_delete.slots ≤ room_1.slots := Nat.le_trans (Nat.add_le_add_left (Nat.le_of_ble_eq_true rfl) slots) hsr
  refine lv_istore (lv' := [(6, .int (cE [xIO, xIA, xIS] E)), (5, .int (nI i)), (4, .ref o2), (3, .ref o1), (2, .ref (gm 0)), (1, .ref (gc 0)), (0, .ref b)]) hx hb dL_law_676 hl (by decide) rfl (fun ls hl => ?_)
  refine lv_aload_n hx hb dL_law_678 rfl (lv_at hl 4 rfl) ?_
  refine lv_aload_n hx hb dL_law_679 rfl (lv_at hl 6 rfl) ?_
  refine lv_iload hx hb dL_law_680 (lv_at hl 1 rfl) ?_
  refine lv_iconst (v := 1) hx hb dL_law_682 (by decide) ?_
  refine lv_iadd hx hb dL_law_683 ?_
  refine tpi (y := nI (i + 1)) (nI_add i 1) ?_
  refine sld C hS (j := i + 1) (by omega) rfl dL_law_684 ?_
  refine lv_aload_n hx hb dL_law_685 rfl (lv_at hl 6 rfl) ?_
  refine lv_iload hx hb dL_law_686 (lv_at hl 1 rfl) ?_
  refine lv_iconst (v := 2) hx hb dL_law_688 (by decide) ?_
  refine lv_iadd hx hb dL_law_689 ?_
  refine tpi (y := nI (i + 2)) (nI_add i 2) ?_
  refine sld C hS (j := i + 2) (by omega) rfl dL_law_690 ?_
  refine lmI (As := [.int (xs (i + 1)), .int (xs (i + 2))]) (rest := []) C J I hS (hM gm (gd_Lm J.1.2.1)) (cwV 2 hts gL_law_X5_delete rfl rfl rfl hdX5_delete ⟨(Nat.le_of_ble_eq_true rfl), (Nat.le_of_ble_eq_true rfl)⟩) rfl rfl rfl hl.1 rfl (Nat.le_of_ble_eq_true rfl) dL_law_691 ⟨hcr2, hsr2⟩ (fun H locs I hS => ?_)
  refine lv_istore (lv' := [(7, .int rM), (6, .int (cE [xIO, xIA, xIS] E)), (5, .int (nI i)), (4, .ref o2), (3, .ref o1), (2, .ref (gm 0)), (1, .ref (gc 0)), (0, .ref b)]) hx hb dL_law_694 hl (by decide) rfl (fun ls hl => ?_)
  refine lv_aload_n hx hb dL_law_696 rfl (lv_at hl 5 rfl) ?_
  refine lmI (As := []) (rest := []) C J I hS (kX5_thrown (gd_Lm J.1.2.1) v2) (cwV 0 hts gL_law_X5_thrown rfl rfl rfl hdX5_thrown ⟨(Nat.le_of_ble_eq_true rfl), (Nat.le_of_ble_eq_true rfl)⟩) rfl rfl rfl hl.1 rfl (Nat.le_of_ble_eq_true rfl) dL_law_697 ⟨hcr2, hsr2⟩ (fun H locs I hS => ?_)
  refine lv_iload hx hb dL_law_700 (lv_at hl 1 rfl) ?_
  refine lv_icmp_eq (tgt := 707) hx hb dL_law_702 (by decide) (fun c1 => ?_) (fun c1 => ?_)
  · skip
    refine lv_iload hx hb dL_law_707 (lv_at hl 1 rfl) ?_
    refine lv_if_ne (tgt := 731) hx hb dL_law_709 (by decide) (fun c2 => ?_) (fun c2 => ?_)
    · skip
      refine lv_goto (tgt := 1187) hx hb dL_law_731 (by decide) ?_
      refine W.widen (k := cells + 6) (n := slots + 36) (Nat.add_le_add_left (Nat.le_of_ble_eq_true rfl) cells) (Nat.add_le_add_left (Nat.le_of_ble_eq_true rfl) slots) ?_
      exact kk _ _ _ _ _ _ _ hR I hS (lv_sub hl [2, 3, 4, 5, 6, 7] rfl)
    · have hn9 := cE_0 c2 (by decide)
      subst hn9
      have he9 := heq rfl
      subst he9
      refine lv_aload_n hx hb dL_law_712 rfl (lv_at hl 4 rfl) ?_
      refine lv_iconst (v := 0) hx hb dL_law_713 (by decide) ?_
      refine va_lald hx hb C.2.2.1.1 I.2.2.1 0 1 rfl rfl (vin (n := 1) (by decide) (by decide) (show (0 : Int32) = nI 0 from rfl)) dL_law_714 ?_
      refine tpl (y := (if r = 0 then 0 else 1 : Int64)) rfl ?_
      refine lv_iload hx hb dL_law_715 (lv_at hl 0 rfl) ?_
      refine lv_if_eq (tgt := 724) hx hb dL_law_717 (by decide) (fun c4 => ?_) (fun c4 => ?_)
      · skip
        refine lv_lconst (v := 0) hx hb dL_law_724 (by decide) ?_
        refine W.lcmp hx hb dL_law_725 ?_
        refine bleq (tgt := 731) hx hb dL_law_726 (by decide) (fun c3 => ?_) (fun c3 => ?_)
        · skip
          refine lv_goto (tgt := 1187) hx hb dL_law_731 (by decide) ?_
          refine W.widen (k := cells + 6) (n := slots + 36) (Nat.add_le_add_left (Nat.le_of_ble_eq_true rfl) cells) (Nat.add_le_add_left (Nat.le_of_ble_eq_true rfl) slots) ?_
          exact kk _ _ _ _ _ _ _ hR I hS (lv_sub hl [2, 3, 4, 5, 6, 7] rfl)
        · exact absurd (by first | rfl | exact if_pos c4 | exact if_neg c4) c3
      · skip
        refine lv_lconst (v := 1) hx hb dL_law_720 (by decide) ?_
        refine lv_goto (tgt := 725) hx hb dL_law_721 (by decide) ?_
        refine W.lcmp hx hb dL_law_725 ?_
        refine bleq (tgt := 731) hx hb dL_law_726 (by decide) (fun c3 => ?_) (fun c3 => ?_)
        · skip
          refine lv_goto (tgt := 1187) hx hb dL_law_731 (by decide) ?_
          refine W.widen (k := cells + 6) (n := slots + 36) (Nat.add_le_add_left (Nat.le_of_ble_eq_true rfl) cells) (Nat.add_le_add_left (Nat.le_of_ble_eq_true rfl) slots) ?_
          exact kk _ _ _ _ _ _ _ hR I hS (lv_sub hl [2, 3, 4, 5, 6, 7] rfl)
        · exact absurd (by first | rfl | exact if_pos c4 | exact if_neg c4) c3
  · exact absurd hthr c1

set_option maxHeartbeats 4000000 in
set_option maxRecDepth 100000 in
theorem law_clean {p : Program} {l : Launch} {e : Env} {s : State} {m : MethodId} {below : List Frame} {meth : Method} {c : Code} {H : Heap} {locs : List Loc} {cells slots : Nat} {Q : State → Prop} {b L i : Nat} {xs : Nat → Int32} {ls : Array Slot} {D : va_G} {K : Nat → ClassId} {gc gm : Nat → Nat} {o1 o2 : Nat} {u : CU} {v : MU} {f : AL} {fd : Nat → UInt64} {Rel : CU → MU → Prop}
    (C : LC p l s m meth c b L xs D K) (J : LD s gc gm o1 o2) (I : LI D K gc gm o1 o2 u v f fd H) (hS : va_S (A0 s) s.heap H locs) (hi : i + 4 ≤ L) (hcr : cells + 6 ≤ room_1.cells) (hsr : slots + 36 ≤ room_1.slots) (hl : lv_has ls 8 [(5, .int (nI i)), (4, .ref o2), (3, .ref o1), (2, .ref (gm 0)), (1, .ref (gc 0)), (0, .ref b)]) (hop : OPi l D K yX4_clean wsX4_clean rmX4_clean yX5_clean wsX5_clean rmX5_clean [xIA] Rel [.int (xs (i + 1))] u v)
    (kk : ∀ (u' : CU) (v' : MU) (f' : AL) (fd' : Nat → UInt64) (H1 : Heap) (locs1 : List Loc) (ls1 : Array Slot), Rel u' v' → LI D K gc gm o1 o2 u' v' f' fd' H1 → va_S (A0 s) s.heap H1 locs1 → lv_has ls1 8 [(5, .int (nI i)), (4, .ref o2), (3, .ref o1), (2, .ref (gm 0)), (1, .ref (gc 0)), (0, .ref b)] → W p l e room_1 s m #[.ref b] below meth c H1 locs1 (cells + 6) (slots + 36) Q (F0 m 1187 ls1 [])) : W p l e room_1 s m #[.ref b] below meth c H locs cells slots Q (F0 m 734 ls []) := by
  obtain ⟨hx, hb, hml, hown, hts⟩ := C.1
  have hL9 : L ≤ 2048 := C.2.1.2.2
  obtain ⟨u2, v2, E, r, rM, hC, hM, hE3, hthr, heq, hR⟩ := hop
  refine lv_aload_n hx hb dL_law_734 rfl (lv_at hl 4 rfl) ?_
  refine lv_aload_n hx hb dL_law_735 rfl (lv_at hl 5 rfl) ?_
  refine lv_iload hx hb dL_law_736 (lv_at hl 0 rfl) ?_
  refine lv_iconst (v := 1) hx hb dL_law_738 (by decide) ?_
  refine lv_iadd hx hb dL_law_739 ?_
  refine tpi (y := nI (i + 1)) (nI_add i 1) ?_
  refine sld C hS (j := i + 1) (by omega) rfl dL_law_740 ?_
  refine lv_aload_n hx hb dL_law_741 rfl (lv_at hl 2 rfl) ?_
  refine lwS (As := [.ref (gc 0), .int (xs (i + 1)), .ref o1]) (rest := []) C J I hS (kL_clean (gd_Lo (o := o1) J.1.1) (o := o1) (Or.inr rfl) (fun i hi => (J.2.2.1 i hi).1) _ (hC gc (gd_Lg J.1.1)) (fun X h9 => by have h8 := hE3 X h9; simpa using h8) f) (vx_cwSW 3 hts gL_law_L_clean rfl rfl rfl hdL_clean.2 ⟨(Nat.le_of_ble_eq_true rfl), (Nat.le_of_ble_eq_true rfl)⟩) rfl hl.1 rfl (Nat.le_of_ble_eq_true rfl) dL_law_742 ⟨Nat.le_trans (Nat.add_le_add_left (Nat.le_of_ble_eq_true rfl) cells) hcr, Nat.le_trans (Nat.add_le_add_left (Nat.le_of_ble_eq_true rfl) slots) hsr⟩ (fun H locs I hS => ?_)
  have hcr2 : cells + rmL_clean.cells ≤ room_1.cells := Nat.le_trans (Nat.add_le_add_left (Nat.le_of_ble_eq_true rfl) cells) hcr
  have hsr2 : slots + rmL_clean.slots ≤ room_1.slots := Nat.le_trans (Nat.add_le_add_left (Nat.le_of_ble_eq_true rfl) slots) hsr
  refine lv_istore (lv' := [(6, .int (cE [xIA] E)), (5, .int (nI i)), (4, .ref o2), (3, .ref o1), (2, .ref (gm 0)), (1, .ref (gc 0)), (0, .ref b)]) hx hb dL_law_745 hl (by decide) rfl (fun ls hl => ?_)
  refine lv_aload_n hx hb dL_law_747 rfl (lv_at hl 4 rfl) ?_
  refine lv_aload_n hx hb dL_law_748 rfl (lv_at hl 6 rfl) ?_
  refine lv_iload hx hb dL_law_749 (lv_at hl 1 rfl) ?_
  refine lv_iconst (v := 1) hx hb dL_law_751 (by decide) ?_
  refine lv_iadd hx hb dL_law_752 ?_
  refine tpi (y := nI (i + 1)) (nI_add i 1) ?_
  refine sld C hS (j := i + 1) (by omega) rfl dL_law_753 ?_
  refine lmI (As := [.int (xs (i + 1))]) (rest := []) C J I hS (hM gm (gd_Lm J.1.2.1)) (cwV 1 hts gL_law_X5_clean rfl rfl rfl hdX5_clean ⟨(Nat.le_of_ble_eq_true rfl), (Nat.le_of_ble_eq_true rfl)⟩) rfl rfl rfl hl.1 rfl (Nat.le_of_ble_eq_true rfl) dL_law_754 ⟨hcr2, hsr2⟩ (fun H locs I hS => ?_)
  refine lv_istore (lv' := [(7, .int rM), (6, .int (cE [xIA] E)), (5, .int (nI i)), (4, .ref o2), (3, .ref o1), (2, .ref (gm 0)), (1, .ref (gc 0)), (0, .ref b)]) hx hb dL_law_757 hl (by decide) rfl (fun ls hl => ?_)
  refine lv_aload_n hx hb dL_law_759 rfl (lv_at hl 5 rfl) ?_
  refine lmI (As := []) (rest := []) C J I hS (kX5_thrown (gd_Lm J.1.2.1) v2) (cwV 0 hts gL_law_X5_thrown rfl rfl rfl hdX5_thrown ⟨(Nat.le_of_ble_eq_true rfl), (Nat.le_of_ble_eq_true rfl)⟩) rfl rfl rfl hl.1 rfl (Nat.le_of_ble_eq_true rfl) dL_law_760 ⟨hcr2, hsr2⟩ (fun H locs I hS => ?_)
  refine lv_iload hx hb dL_law_763 (lv_at hl 1 rfl) ?_
  refine lv_icmp_eq (tgt := 770) hx hb dL_law_765 (by decide) (fun c1 => ?_) (fun c1 => ?_)
  · skip
    refine lv_iload hx hb dL_law_770 (lv_at hl 1 rfl) ?_
    refine lv_if_ne (tgt := 787) hx hb dL_law_772 (by decide) (fun c2 => ?_) (fun c2 => ?_)
    · skip
      refine lv_goto (tgt := 1187) hx hb dL_law_787 (by decide) ?_
      refine W.widen (k := cells + 6) (n := slots + 36) (Nat.add_le_add_left (Nat.le_of_ble_eq_true rfl) cells) (Nat.add_le_add_left (Nat.le_of_ble_eq_true rfl) slots) ?_
      exact kk _ _ _ _ _ _ _ hR I hS (lv_sub hl [2, 3, 4, 5, 6, 7] rfl)
    · have hn9 := cE_0 c2 (by decide)
      subst hn9
      have he9 := heq rfl
      subst he9
      refine lv_aload_n hx hb dL_law_775 rfl (lv_at hl 4 rfl) ?_
      refine lv_iconst (v := 0) hx hb dL_law_776 (by decide) ?_
      refine va_lald hx hb C.2.2.1.1 I.2.2.1 0 1 rfl rfl (vin (n := 1) (by decide) (by decide) (show (0 : Int32) = nI 0 from rfl)) dL_law_777 ?_
      refine tpl (y := (r.toInt64)) rfl ?_
      refine lv_iload hx hb dL_law_778 (lv_at hl 0 rfl) ?_
      refine lv_i2l hx hb dL_law_780 rfl ?_
      refine W.lcmp hx hb dL_law_781 ?_
      refine bleq (tgt := 787) hx hb dL_law_782 (by decide) (fun c3 => ?_) (fun c3 => ?_)
      · skip
        refine lv_goto (tgt := 1187) hx hb dL_law_787 (by decide) ?_
        refine W.widen (k := cells + 6) (n := slots + 36) (Nat.add_le_add_left (Nat.le_of_ble_eq_true rfl) cells) (Nat.add_le_add_left (Nat.le_of_ble_eq_true rfl) slots) ?_
        exact kk _ _ _ _ _ _ _ hR I hS (lv_sub hl [2, 3, 4, 5, 6, 7] rfl)
      · exact absurd (by first | rfl | exact if_pos c4 | exact if_neg c4) c3
  · exact absurd hthr c1

set_option maxHeartbeats 4000000 in
set_option maxRecDepth 100000 in
theorem law_setFreezing {p : Program} {l : Launch} {e : Env} {s : State} {m : MethodId} {below : List Frame} {meth : Method} {c : Code} {H : Heap} {locs : List Loc} {cells slots : Nat} {Q : State → Prop} {b L i : Nat} {xs : Nat → Int32} {ls : Array Slot} {D : va_G} {K : Nat → ClassId} {gc gm : Nat → Nat} {o1 o2 : Nat} {u : CU} {v : MU} {f : AL} {fd : Nat → UInt64} {Rel : CU → MU → Prop}
    (C : LC p l s m meth c b L xs D K) (J : LD s gc gm o1 o2) (I : LI D K gc gm o1 o2 u v f fd H) (hS : va_S (A0 s) s.heap H locs) (hi : i + 4 ≤ L) (hcr : cells + 6 ≤ room_1.cells) (hsr : slots + 36 ≤ room_1.slots) (hl : lv_has ls 8 [(5, .int (nI i)), (4, .ref o2), (3, .ref o1), (2, .ref (gm 0)), (1, .ref (gc 0)), (0, .ref b)]) (hop : OPi l D K yX4_setFreezing wsX4_setFreezing rmX4_setFreezing yX5_setFreezing wsX5_setFreezing rmX5_setFreezing [xIA] Rel [.int (xs (i + 1))] u v)
    (kk : ∀ (u' : CU) (v' : MU) (f' : AL) (fd' : Nat → UInt64) (H1 : Heap) (locs1 : List Loc) (ls1 : Array Slot), Rel u' v' → LI D K gc gm o1 o2 u' v' f' fd' H1 → va_S (A0 s) s.heap H1 locs1 → lv_has ls1 8 [(5, .int (nI i)), (4, .ref o2), (3, .ref o1), (2, .ref (gm 0)), (1, .ref (gc 0)), (0, .ref b)] → W p l e room_1 s m #[.ref b] below meth c H1 locs1 (cells + 6) (slots + 36) Q (F0 m 1187 ls1 [])) : W p l e room_1 s m #[.ref b] below meth c H locs cells slots Q (F0 m 790 ls []) := by
  obtain ⟨hx, hb, hml, hown, hts⟩ := C.1
  have hL9 : L ≤ 2048 := C.2.1.2.2
  obtain ⟨u2, v2, E, r, rM, hC, hM, hE3, hthr, heq, hR⟩ := hop
  refine lv_aload_n hx hb dL_law_790 rfl (lv_at hl 4 rfl) ?_
  refine lv_aload_n hx hb dL_law_791 rfl (lv_at hl 5 rfl) ?_
  refine lv_iload hx hb dL_law_792 (lv_at hl 0 rfl) ?_
  refine lv_iconst (v := 1) hx hb dL_law_794 (by decide) ?_
  refine lv_iadd hx hb dL_law_795 ?_
  refine tpi (y := nI (i + 1)) (nI_add i 1) ?_
  refine sld C hS (j := i + 1) (by omega) rfl dL_law_796 ?_
  refine lv_aload_n hx hb dL_law_797 rfl (lv_at hl 2 rfl) ?_
  refine lwS (As := [.ref (gc 0), .int (xs (i + 1)), .ref o1]) (rest := []) C J I hS (kL_setFreezing (gd_Lo (o := o1) J.1.1) (o := o1) (Or.inr rfl) (fun i hi => (J.2.2.1 i hi).1) _ (hC gc (gd_Lg J.1.1)) (fun X h9 => by have h8 := hE3 X h9; simpa using h8) f) (vx_cwSW 3 hts gL_law_L_setFreezing rfl rfl rfl hdL_setFreezing.2 ⟨(Nat.le_of_ble_eq_true rfl), (Nat.le_of_ble_eq_true rfl)⟩) rfl hl.1 rfl (Nat.le_of_ble_eq_true rfl) dL_law_798 ⟨Nat.le_trans (Nat.add_le_add_left (Nat.le_of_ble_eq_true rfl) cells) hcr, Nat.le_trans (Nat.add_le_add_left (Nat.le_of_ble_eq_true rfl) slots) hsr⟩ (fun H locs I hS => ?_)
  have hcr2 : cells + rmL_setFreezing.cells ≤ room_1.cells := Nat.le_trans (Nat.add_le_add_left (Nat.le_of_ble_eq_true rfl) cells) hcr
  have hsr2 : slots + rmL_setFreezing.slots ≤ room_1.slots := Nat.le_trans (Nat.add_le_add_left (Nat.le_of_ble_eq_true rfl) slots) hsr
  refine lv_istore (lv' := [(6, .int (cE [xIA] E)), (5, .int (nI i)), (4, .ref o2), (3, .ref o1), (2, .ref (gm 0)), (1, .ref (gc 0)), (0, .ref b)]) hx hb dL_law_801 hl (by decide) rfl (fun ls hl => ?_)
  refine lv_aload_n hx hb dL_law_803 rfl (lv_at hl 4 rfl) ?_
  refine lv_aload_n hx hb dL_law_804 rfl (lv_at hl 6 rfl) ?_
  refine lv_iload hx hb dL_law_805 (lv_at hl 1 rfl) ?_
  refine lv_iconst (v := 1) hx hb dL_law_807 (by decide) ?_
  refine lv_iadd hx hb dL_law_808 ?_
  refine tpi (y := nI (i + 1)) (nI_add i 1) ?_
  refine sld C hS (j := i + 1) (by omega) rfl dL_law_809 ?_
  refine lmI (As := [.int (xs (i + 1))]) (rest := []) C J I hS (hM gm (gd_Lm J.1.2.1)) (cwV 1 hts gL_law_X5_setFreezing rfl rfl rfl hdX5_setFreezing ⟨(Nat.le_of_ble_eq_true rfl), (Nat.le_of_ble_eq_true rfl)⟩) rfl rfl rfl hl.1 rfl (Nat.le_of_ble_eq_true rfl) dL_law_810 ⟨hcr2, hsr2⟩ (fun H locs I hS => ?_)
  refine lv_istore (lv' := [(7, .int rM), (6, .int (cE [xIA] E)), (5, .int (nI i)), (4, .ref o2), (3, .ref o1), (2, .ref (gm 0)), (1, .ref (gc 0)), (0, .ref b)]) hx hb dL_law_813 hl (by decide) rfl (fun ls hl => ?_)
  refine lv_aload_n hx hb dL_law_815 rfl (lv_at hl 5 rfl) ?_
  refine lmI (As := []) (rest := []) C J I hS (kX5_thrown (gd_Lm J.1.2.1) v2) (cwV 0 hts gL_law_X5_thrown rfl rfl rfl hdX5_thrown ⟨(Nat.le_of_ble_eq_true rfl), (Nat.le_of_ble_eq_true rfl)⟩) rfl rfl rfl hl.1 rfl (Nat.le_of_ble_eq_true rfl) dL_law_816 ⟨hcr2, hsr2⟩ (fun H locs I hS => ?_)
  refine lv_iload hx hb dL_law_819 (lv_at hl 1 rfl) ?_
  refine lv_icmp_eq (tgt := 826) hx hb dL_law_821 (by decide) (fun c1 => ?_) (fun c1 => ?_)
  · skip
    refine lv_iload hx hb dL_law_826 (lv_at hl 1 rfl) ?_
    refine lv_if_ne (tgt := 843) hx hb dL_law_828 (by decide) (fun c2 => ?_) (fun c2 => ?_)
    · skip
      refine lv_goto (tgt := 1187) hx hb dL_law_843 (by decide) ?_
      refine W.widen (k := cells + 6) (n := slots + 36) (Nat.add_le_add_left (Nat.le_of_ble_eq_true rfl) cells) (Nat.add_le_add_left (Nat.le_of_ble_eq_true rfl) slots) ?_
      exact kk _ _ _ _ _ _ _ hR I hS (lv_sub hl [2, 3, 4, 5, 6, 7] rfl)
    · have hn9 := cE_0 c2 (by decide)
      subst hn9
      have he9 := heq rfl
      subst he9
      refine lv_aload_n hx hb dL_law_831 rfl (lv_at hl 4 rfl) ?_
      refine lv_iconst (v := 0) hx hb dL_law_832 (by decide) ?_
      refine va_lald hx hb C.2.2.1.1 I.2.2.1 0 1 rfl rfl (vin (n := 1) (by decide) (by decide) (show (0 : Int32) = nI 0 from rfl)) dL_law_833 ?_
      refine tpl (y := (r.toInt64)) rfl ?_
      refine lv_iload hx hb dL_law_834 (lv_at hl 0 rfl) ?_
      refine lv_i2l hx hb dL_law_836 rfl ?_
      refine W.lcmp hx hb dL_law_837 ?_
      refine bleq (tgt := 843) hx hb dL_law_838 (by decide) (fun c3 => ?_) (fun c3 => ?_)
      · skip
        refine lv_goto (tgt := 1187) hx hb dL_law_843 (by decide) ?_
        refine W.widen (k := cells + 6) (n := slots + 36) (Nat.add_le_add_left (Nat.le_of_ble_eq_true rfl) cells) (Nat.add_le_add_left (Nat.le_of_ble_eq_true rfl) slots) ?_
        exact kk _ _ _ _ _ _ _ hR I hS (lv_sub hl [2, 3, 4, 5, 6, 7] rfl)
      · exact absurd (by first | rfl | exact if_pos c4 | exact if_neg c4) c3
  · exact absurd hthr c1

set_option maxHeartbeats 4000000 in
set_option maxRecDepth 100000 in
theorem law_isMapped {p : Program} {l : Launch} {e : Env} {s : State} {m : MethodId} {below : List Frame} {meth : Method} {c : Code} {H : Heap} {locs : List Loc} {cells slots : Nat} {Q : State → Prop} {b L i : Nat} {xs : Nat → Int32} {ls : Array Slot} {D : va_G} {K : Nat → ClassId} {gc gm : Nat → Nat} {o1 o2 : Nat} {u : CU} {v : MU} {f : AL} {fd : Nat → UInt64} {Rel : CU → MU → Prop}
    (C : LC p l s m meth c b L xs D K) (J : LD s gc gm o1 o2) (I : LI D K gc gm o1 o2 u v f fd H) (hS : va_S (A0 s) s.heap H locs) (hi : i + 4 ≤ L) (hcr : cells + 6 ≤ room_1.cells) (hsr : slots + 36 ≤ room_1.slots) (hl : lv_has ls 8 [(5, .int (nI i)), (4, .ref o2), (3, .ref o1), (2, .ref (gm 0)), (1, .ref (gc 0)), (0, .ref b)]) (hop : OPi l D K yX4_isMapped wsX4_isMapped rmX4_isMapped yX5_isMapped wsX5_isMapped rmX5_isMapped [xIA] Rel [.int (xs (i + 1))] u v)
    (kk : ∀ (u' : CU) (v' : MU) (f' : AL) (fd' : Nat → UInt64) (H1 : Heap) (locs1 : List Loc) (ls1 : Array Slot), Rel u' v' → LI D K gc gm o1 o2 u' v' f' fd' H1 → va_S (A0 s) s.heap H1 locs1 → lv_has ls1 8 [(5, .int (nI i)), (4, .ref o2), (3, .ref o1), (2, .ref (gm 0)), (1, .ref (gc 0)), (0, .ref b)] → W p l e room_1 s m #[.ref b] below meth c H1 locs1 (cells + 6) (slots + 36) Q (F0 m 1187 ls1 [])) : W p l e room_1 s m #[.ref b] below meth c H locs cells slots Q (F0 m 846 ls []) := by
  obtain ⟨hx, hb, hml, hown, hts⟩ := C.1
  have hL9 : L ≤ 2048 := C.2.1.2.2
  obtain ⟨u2, v2, E, r, rM, hC, hM, hE3, hthr, heq, hR⟩ := hop
  refine lv_aload_n hx hb dL_law_846 rfl (lv_at hl 4 rfl) ?_
  refine lv_aload_n hx hb dL_law_847 rfl (lv_at hl 5 rfl) ?_
  refine lv_iload hx hb dL_law_848 (lv_at hl 0 rfl) ?_
  refine lv_iconst (v := 1) hx hb dL_law_850 (by decide) ?_
  refine lv_iadd hx hb dL_law_851 ?_
  refine tpi (y := nI (i + 1)) (nI_add i 1) ?_
  refine sld C hS (j := i + 1) (by omega) rfl dL_law_852 ?_
  refine lv_aload_n hx hb dL_law_853 rfl (lv_at hl 2 rfl) ?_
  refine lwS (As := [.ref (gc 0), .int (xs (i + 1)), .ref o1]) (rest := []) C J I hS (kL_isMapped (gd_Lo (o := o1) J.1.1) (o := o1) (Or.inr rfl) (fun i hi => (J.2.2.1 i hi).1) _ (hC gc (gd_Lg J.1.1)) (fun X h9 => by have h8 := hE3 X h9; simpa using h8) f) (vx_cwSW 3 hts gL_law_L_isMapped rfl rfl rfl hdL_isMapped.2 ⟨(Nat.le_of_ble_eq_true rfl), (Nat.le_of_ble_eq_true rfl)⟩) rfl hl.1 rfl (Nat.le_of_ble_eq_true rfl) dL_law_854 ⟨Nat.le_trans (Nat.add_le_add_left (Nat.le_of_ble_eq_true rfl) cells) hcr, Nat.le_trans (Nat.add_le_add_left (Nat.le_of_ble_eq_true rfl) slots) hsr⟩ (fun H locs I hS => ?_)
  have hcr2 : cells + rmL_isMapped.cells ≤ room_1.cells := Nat.le_trans (Nat.add_le_add_left (Nat.le_of_ble_eq_true rfl) cells) hcr
  have hsr2 : slots + rmL_isMapped.slots ≤ room_1.slots := Nat.le_trans (Nat.add_le_add_left (Nat.le_of_ble_eq_true rfl) slots) hsr
  refine lv_istore (lv' := [(6, .int (cE [xIA] E)), (5, .int (nI i)), (4, .ref o2), (3, .ref o1), (2, .ref (gm 0)), (1, .ref (gc 0)), (0, .ref b)]) hx hb dL_law_857 hl (by decide) rfl (fun ls hl => ?_)
  refine lv_aload_n hx hb dL_law_859 rfl (lv_at hl 4 rfl) ?_
  refine lv_aload_n hx hb dL_law_860 rfl (lv_at hl 6 rfl) ?_
  refine lv_iload hx hb dL_law_861 (lv_at hl 1 rfl) ?_
  refine lv_iconst (v := 1) hx hb dL_law_863 (by decide) ?_
  refine lv_iadd hx hb dL_law_864 ?_
  refine tpi (y := nI (i + 1)) (nI_add i 1) ?_
  refine sld C hS (j := i + 1) (by omega) rfl dL_law_865 ?_
  refine lmI (As := [.int (xs (i + 1))]) (rest := []) C J I hS (hM gm (gd_Lm J.1.2.1)) (cwV 1 hts gL_law_X5_isMapped rfl rfl rfl hdX5_isMapped ⟨(Nat.le_of_ble_eq_true rfl), (Nat.le_of_ble_eq_true rfl)⟩) rfl rfl rfl hl.1 rfl (Nat.le_of_ble_eq_true rfl) dL_law_866 ⟨hcr2, hsr2⟩ (fun H locs I hS => ?_)
  refine lv_istore (lv' := [(7, .int rM), (6, .int (cE [xIA] E)), (5, .int (nI i)), (4, .ref o2), (3, .ref o1), (2, .ref (gm 0)), (1, .ref (gc 0)), (0, .ref b)]) hx hb dL_law_869 hl (by decide) rfl (fun ls hl => ?_)
  refine lv_aload_n hx hb dL_law_871 rfl (lv_at hl 5 rfl) ?_
  refine lmI (As := []) (rest := []) C J I hS (kX5_thrown (gd_Lm J.1.2.1) v2) (cwV 0 hts gL_law_X5_thrown rfl rfl rfl hdX5_thrown ⟨(Nat.le_of_ble_eq_true rfl), (Nat.le_of_ble_eq_true rfl)⟩) rfl rfl rfl hl.1 rfl (Nat.le_of_ble_eq_true rfl) dL_law_872 ⟨hcr2, hsr2⟩ (fun H locs I hS => ?_)
  refine lv_iload hx hb dL_law_875 (lv_at hl 1 rfl) ?_
  refine lv_icmp_eq (tgt := 882) hx hb dL_law_877 (by decide) (fun c1 => ?_) (fun c1 => ?_)
  · skip
    refine lv_iload hx hb dL_law_882 (lv_at hl 1 rfl) ?_
    refine lv_if_ne (tgt := 906) hx hb dL_law_884 (by decide) (fun c2 => ?_) (fun c2 => ?_)
    · skip
      refine lv_goto (tgt := 1187) hx hb dL_law_906 (by decide) ?_
      refine W.widen (k := cells + 6) (n := slots + 36) (Nat.add_le_add_left (Nat.le_of_ble_eq_true rfl) cells) (Nat.add_le_add_left (Nat.le_of_ble_eq_true rfl) slots) ?_
      exact kk _ _ _ _ _ _ _ hR I hS (lv_sub hl [2, 3, 4, 5, 6, 7] rfl)
    · have hn9 := cE_0 c2 (by decide)
      subst hn9
      have he9 := heq rfl
      subst he9
      refine lv_aload_n hx hb dL_law_887 rfl (lv_at hl 4 rfl) ?_
      refine lv_iconst (v := 0) hx hb dL_law_888 (by decide) ?_
      refine va_lald hx hb C.2.2.1.1 I.2.2.1 0 1 rfl rfl (vin (n := 1) (by decide) (by decide) (show (0 : Int32) = nI 0 from rfl)) dL_law_889 ?_
      refine tpl (y := (if r = 0 then 0 else 1 : Int64)) rfl ?_
      refine lv_iload hx hb dL_law_890 (lv_at hl 0 rfl) ?_
      refine lv_if_eq (tgt := 899) hx hb dL_law_892 (by decide) (fun c4 => ?_) (fun c4 => ?_)
      · skip
        refine lv_lconst (v := 0) hx hb dL_law_899 (by decide) ?_
        refine W.lcmp hx hb dL_law_900 ?_
        refine bleq (tgt := 906) hx hb dL_law_901 (by decide) (fun c3 => ?_) (fun c3 => ?_)
        · skip
          refine lv_goto (tgt := 1187) hx hb dL_law_906 (by decide) ?_
          refine W.widen (k := cells + 6) (n := slots + 36) (Nat.add_le_add_left (Nat.le_of_ble_eq_true rfl) cells) (Nat.add_le_add_left (Nat.le_of_ble_eq_true rfl) slots) ?_
          exact kk _ _ _ _ _ _ _ hR I hS (lv_sub hl [2, 3, 4, 5, 6, 7] rfl)
        · exact absurd (by first | rfl | exact if_pos c4 | exact if_neg c4) c3
      · skip
        refine lv_lconst (v := 1) hx hb dL_law_895 (by decide) ?_
        refine lv_goto (tgt := 900) hx hb dL_law_896 (by decide) ?_
        refine W.lcmp hx hb dL_law_900 ?_
        refine bleq (tgt := 906) hx hb dL_law_901 (by decide) (fun c3 => ?_) (fun c3 => ?_)
        · skip
          refine lv_goto (tgt := 1187) hx hb dL_law_906 (by decide) ?_
          refine W.widen (k := cells + 6) (n := slots + 36) (Nat.add_le_add_left (Nat.le_of_ble_eq_true rfl) cells) (Nat.add_le_add_left (Nat.le_of_ble_eq_true rfl) slots) ?_
          exact kk _ _ _ _ _ _ _ hR I hS (lv_sub hl [2, 3, 4, 5, 6, 7] rfl)
        · exact absurd (by first | rfl | exact if_pos c4 | exact if_neg c4) c3
  · exact absurd hthr c1

set_option maxHeartbeats 4000000 in
set_option maxRecDepth 100000 in
theorem law_isWhole {p : Program} {l : Launch} {e : Env} {s : State} {m : MethodId} {below : List Frame} {meth : Method} {c : Code} {H : Heap} {locs : List Loc} {cells slots : Nat} {Q : State → Prop} {b L i : Nat} {xs : Nat → Int32} {ls : Array Slot} {D : va_G} {K : Nat → ClassId} {gc gm : Nat → Nat} {o1 o2 : Nat} {u : CU} {v : MU} {f : AL} {fd : Nat → UInt64} {Rel : CU → MU → Prop}
    (C : LC p l s m meth c b L xs D K) (J : LD s gc gm o1 o2) (I : LI D K gc gm o1 o2 u v f fd H) (hS : va_S (A0 s) s.heap H locs) (hi : i + 4 ≤ L) (hcr : cells + 6 ≤ room_1.cells) (hsr : slots + 36 ≤ room_1.slots) (hl : lv_has ls 8 [(5, .int (nI i)), (4, .ref o2), (3, .ref o1), (2, .ref (gm 0)), (1, .ref (gc 0)), (0, .ref b)]) (hop : OPi l D K yX4_isWhole wsX4_isWhole rmX4_isWhole yX5_isWhole wsX5_isWhole rmX5_isWhole [xIA] Rel [.int (xs (i + 1))] u v)
    (kk : ∀ (u' : CU) (v' : MU) (f' : AL) (fd' : Nat → UInt64) (H1 : Heap) (locs1 : List Loc) (ls1 : Array Slot), Rel u' v' → LI D K gc gm o1 o2 u' v' f' fd' H1 → va_S (A0 s) s.heap H1 locs1 → lv_has ls1 8 [(5, .int (nI i)), (4, .ref o2), (3, .ref o1), (2, .ref (gm 0)), (1, .ref (gc 0)), (0, .ref b)] → W p l e room_1 s m #[.ref b] below meth c H1 locs1 (cells + 6) (slots + 36) Q (F0 m 1187 ls1 [])) : W p l e room_1 s m #[.ref b] below meth c H locs cells slots Q (F0 m 909 ls []) := by
  obtain ⟨hx, hb, hml, hown, hts⟩ := C.1
  have hL9 : L ≤ 2048 := C.2.1.2.2
  obtain ⟨u2, v2, E, r, rM, hC, hM, hE3, hthr, heq, hR⟩ := hop
  refine lv_aload_n hx hb dL_law_909 rfl (lv_at hl 4 rfl) ?_
  refine lv_aload_n hx hb dL_law_910 rfl (lv_at hl 5 rfl) ?_
  refine lv_iload hx hb dL_law_911 (lv_at hl 0 rfl) ?_
  refine lv_iconst (v := 1) hx hb dL_law_913 (by decide) ?_
  refine lv_iadd hx hb dL_law_914 ?_
  refine tpi (y := nI (i + 1)) (nI_add i 1) ?_
  refine sld C hS (j := i + 1) (by omega) rfl dL_law_915 ?_
  refine lv_aload_n hx hb dL_law_916 rfl (lv_at hl 2 rfl) ?_
  refine lwS (As := [.ref (gc 0), .int (xs (i + 1)), .ref o1]) (rest := []) C J I hS (kL_isWhole (gd_Lo (o := o1) J.1.1) (o := o1) (Or.inr rfl) (fun i hi => (J.2.2.1 i hi).1) _ (hC gc (gd_Lg J.1.1)) (fun X h9 => by have h8 := hE3 X h9; simpa using h8) f) (vx_cwSW 3 hts gL_law_L_isWhole rfl rfl rfl hdL_isWhole.2 ⟨(Nat.le_of_ble_eq_true rfl), (Nat.le_of_ble_eq_true rfl)⟩) rfl hl.1 rfl (Nat.le_of_ble_eq_true rfl) dL_law_917 ⟨Nat.le_trans (Nat.add_le_add_left (Nat.le_of_ble_eq_true rfl) cells) hcr, Nat.le_trans (Nat.add_le_add_left (Nat.le_of_ble_eq_true rfl) slots) hsr⟩ (fun H locs I hS => ?_)
  have hcr2 : cells + rmL_isWhole.cells ≤ room_1.cells := Nat.le_trans (Nat.add_le_add_left (Nat.le_of_ble_eq_true rfl) cells) hcr
  have hsr2 : slots + rmL_isWhole.slots ≤ room_1.slots := Nat.le_trans (Nat.add_le_add_left (Nat.le_of_ble_eq_true rfl) slots) hsr
  refine lv_istore (lv' := [(6, .int (cE [xIA] E)), (5, .int (nI i)), (4, .ref o2), (3, .ref o1), (2, .ref (gm 0)), (1, .ref (gc 0)), (0, .ref b)]) hx hb dL_law_920 hl (by decide) rfl (fun ls hl => ?_)
  refine lv_aload_n hx hb dL_law_922 rfl (lv_at hl 4 rfl) ?_
  refine lv_aload_n hx hb dL_law_923 rfl (lv_at hl 6 rfl) ?_
  refine lv_iload hx hb dL_law_924 (lv_at hl 1 rfl) ?_
  refine lv_iconst (v := 1) hx hb dL_law_926 (by decide) ?_
  refine lv_iadd hx hb dL_law_927 ?_
  refine tpi (y := nI (i + 1)) (nI_add i 1) ?_
  refine sld C hS (j := i + 1) (by omega) rfl dL_law_928 ?_
  refine lmI (As := [.int (xs (i + 1))]) (rest := []) C J I hS (hM gm (gd_Lm J.1.2.1)) (cwV 1 hts gL_law_X5_isWhole rfl rfl rfl hdX5_isWhole ⟨(Nat.le_of_ble_eq_true rfl), (Nat.le_of_ble_eq_true rfl)⟩) rfl rfl rfl hl.1 rfl (Nat.le_of_ble_eq_true rfl) dL_law_929 ⟨hcr2, hsr2⟩ (fun H locs I hS => ?_)
  refine lv_istore (lv' := [(7, .int rM), (6, .int (cE [xIA] E)), (5, .int (nI i)), (4, .ref o2), (3, .ref o1), (2, .ref (gm 0)), (1, .ref (gc 0)), (0, .ref b)]) hx hb dL_law_932 hl (by decide) rfl (fun ls hl => ?_)
  refine lv_aload_n hx hb dL_law_934 rfl (lv_at hl 5 rfl) ?_
  refine lmI (As := []) (rest := []) C J I hS (kX5_thrown (gd_Lm J.1.2.1) v2) (cwV 0 hts gL_law_X5_thrown rfl rfl rfl hdX5_thrown ⟨(Nat.le_of_ble_eq_true rfl), (Nat.le_of_ble_eq_true rfl)⟩) rfl rfl rfl hl.1 rfl (Nat.le_of_ble_eq_true rfl) dL_law_935 ⟨hcr2, hsr2⟩ (fun H locs I hS => ?_)
  refine lv_iload hx hb dL_law_938 (lv_at hl 1 rfl) ?_
  refine lv_icmp_eq (tgt := 945) hx hb dL_law_940 (by decide) (fun c1 => ?_) (fun c1 => ?_)
  · skip
    refine lv_iload hx hb dL_law_945 (lv_at hl 1 rfl) ?_
    refine lv_if_ne (tgt := 969) hx hb dL_law_947 (by decide) (fun c2 => ?_) (fun c2 => ?_)
    · skip
      refine lv_goto (tgt := 1187) hx hb dL_law_969 (by decide) ?_
      refine W.widen (k := cells + 6) (n := slots + 36) (Nat.add_le_add_left (Nat.le_of_ble_eq_true rfl) cells) (Nat.add_le_add_left (Nat.le_of_ble_eq_true rfl) slots) ?_
      exact kk _ _ _ _ _ _ _ hR I hS (lv_sub hl [2, 3, 4, 5, 6, 7] rfl)
    · have hn9 := cE_0 c2 (by decide)
      subst hn9
      have he9 := heq rfl
      subst he9
      refine lv_aload_n hx hb dL_law_950 rfl (lv_at hl 4 rfl) ?_
      refine lv_iconst (v := 0) hx hb dL_law_951 (by decide) ?_
      refine va_lald hx hb C.2.2.1.1 I.2.2.1 0 1 rfl rfl (vin (n := 1) (by decide) (by decide) (show (0 : Int32) = nI 0 from rfl)) dL_law_952 ?_
      refine tpl (y := (if r = 0 then 0 else 1 : Int64)) rfl ?_
      refine lv_iload hx hb dL_law_953 (lv_at hl 0 rfl) ?_
      refine lv_if_eq (tgt := 962) hx hb dL_law_955 (by decide) (fun c4 => ?_) (fun c4 => ?_)
      · skip
        refine lv_lconst (v := 0) hx hb dL_law_962 (by decide) ?_
        refine W.lcmp hx hb dL_law_963 ?_
        refine bleq (tgt := 969) hx hb dL_law_964 (by decide) (fun c3 => ?_) (fun c3 => ?_)
        · skip
          refine lv_goto (tgt := 1187) hx hb dL_law_969 (by decide) ?_
          refine W.widen (k := cells + 6) (n := slots + 36) (Nat.add_le_add_left (Nat.le_of_ble_eq_true rfl) cells) (Nat.add_le_add_left (Nat.le_of_ble_eq_true rfl) slots) ?_
          exact kk _ _ _ _ _ _ _ hR I hS (lv_sub hl [2, 3, 4, 5, 6, 7] rfl)
        · exact absurd (by first | rfl | exact if_pos c4 | exact if_neg c4) c3
      · skip
        refine lv_lconst (v := 1) hx hb dL_law_958 (by decide) ?_
        refine lv_goto (tgt := 963) hx hb dL_law_959 (by decide) ?_
        refine W.lcmp hx hb dL_law_963 ?_
        refine bleq (tgt := 969) hx hb dL_law_964 (by decide) (fun c3 => ?_) (fun c3 => ?_)
        · skip
          refine lv_goto (tgt := 1187) hx hb dL_law_969 (by decide) ?_
          refine W.widen (k := cells + 6) (n := slots + 36) (Nat.add_le_add_left (Nat.le_of_ble_eq_true rfl) cells) (Nat.add_le_add_left (Nat.le_of_ble_eq_true rfl) slots) ?_
          exact kk _ _ _ _ _ _ _ hR I hS (lv_sub hl [2, 3, 4, 5, 6, 7] rfl)
        · exact absurd (by first | rfl | exact if_pos c4 | exact if_neg c4) c3
  · exact absurd hthr c1

set_option maxHeartbeats 4000000 in
set_option maxRecDepth 100000 in
theorem law_slot {p : Program} {l : Launch} {e : Env} {s : State} {m : MethodId} {below : List Frame} {meth : Method} {c : Code} {H : Heap} {locs : List Loc} {cells slots : Nat} {Q : State → Prop} {b L i : Nat} {xs : Nat → Int32} {ls : Array Slot} {D : va_G} {K : Nat → ClassId} {gc gm : Nat → Nat} {o1 o2 : Nat} {u : CU} {v : MU} {f : AL} {fd : Nat → UInt64} {Rel : CU → MU → Prop}
    (C : LC p l s m meth c b L xs D K) (J : LD s gc gm o1 o2) (I : LI D K gc gm o1 o2 u v f fd H) (hS : va_S (A0 s) s.heap H locs) (hi : i + 4 ≤ L) (hcr : cells + 6 ≤ room_1.cells) (hsr : slots + 36 ≤ room_1.slots) (hl : lv_has ls 8 [(5, .int (nI i)), (4, .ref o2), (3, .ref o1), (2, .ref (gm 0)), (1, .ref (gc 0)), (0, .ref b)]) (hop : OPi l D K yX4_slot wsX4_slot rmX4_slot yX5_slot wsX5_slot rmX5_slot [xIA] Rel [.int (xs (i + 1)), .int (xs (i + 2))] u v)
    (kk : ∀ (u' : CU) (v' : MU) (f' : AL) (fd' : Nat → UInt64) (H1 : Heap) (locs1 : List Loc) (ls1 : Array Slot), Rel u' v' → LI D K gc gm o1 o2 u' v' f' fd' H1 → va_S (A0 s) s.heap H1 locs1 → lv_has ls1 8 [(5, .int (nI i)), (4, .ref o2), (3, .ref o1), (2, .ref (gm 0)), (1, .ref (gc 0)), (0, .ref b)] → W p l e room_1 s m #[.ref b] below meth c H1 locs1 (cells + 6) (slots + 36) Q (F0 m 1187 ls1 [])) : W p l e room_1 s m #[.ref b] below meth c H locs cells slots Q (F0 m 972 ls []) := by
  obtain ⟨hx, hb, hml, hown, hts⟩ := C.1
  have hL9 : L ≤ 2048 := C.2.1.2.2
  obtain ⟨u2, v2, E, r, rM, hC, hM, hE3, hthr, heq, hR⟩ := hop
  refine lv_aload_n hx hb dL_law_972 rfl (lv_at hl 4 rfl) ?_
  refine lv_aload_n hx hb dL_law_973 rfl (lv_at hl 5 rfl) ?_
  refine lv_iload hx hb dL_law_974 (lv_at hl 0 rfl) ?_
  refine lv_iconst (v := 1) hx hb dL_law_976 (by decide) ?_
  refine lv_iadd hx hb dL_law_977 ?_
  refine tpi (y := nI (i + 1)) (nI_add i 1) ?_
  refine sld C hS (j := i + 1) (by omega) rfl dL_law_978 ?_
  refine lv_aload_n hx hb dL_law_979 rfl (lv_at hl 5 rfl) ?_
  refine lv_iload hx hb dL_law_980 (lv_at hl 0 rfl) ?_
  refine lv_iconst (v := 2) hx hb dL_law_982 (by decide) ?_
  refine lv_iadd hx hb dL_law_983 ?_
  refine tpi (y := nI (i + 2)) (nI_add i 2) ?_
  refine sld C hS (j := i + 2) (by omega) rfl dL_law_984 ?_
  refine lv_aload_n hx hb dL_law_985 rfl (lv_at hl 2 rfl) ?_
  refine lwS (As := [.ref (gc 0), .int (xs (i + 1)), .int (xs (i + 2)), .ref o1]) (rest := []) C J I hS (kL_slot (gd_Lo (o := o1) J.1.1) (o := o1) (Or.inr rfl) (fun i hi => (J.2.2.1 i hi).1) _ _ (hC gc (gd_Lg J.1.1)) (fun X h9 => by have h8 := hE3 X h9; simpa using h8) f) (vx_cwSW 4 hts gL_law_L_slot rfl rfl rfl hdL_slot.2 ⟨(Nat.le_of_ble_eq_true rfl), (Nat.le_of_ble_eq_true rfl)⟩) rfl hl.1 rfl (Nat.le_of_ble_eq_true rfl) dL_law_986 ⟨Nat.le_trans (Nat.add_le_add_left (Nat.le_of_ble_eq_true rfl) cells) hcr, Nat.le_trans (Nat.add_le_add_left (Nat.le_of_ble_eq_true rfl) slots) hsr⟩ (fun H locs I hS => ?_)
  have hcr2 : cells + rmL_slot.cells ≤ room_1.cells := Nat.le_trans (Nat.add_le_add_left (Nat.le_of_ble_eq_true rfl) cells) hcr
  have hsr2 : slots + rmL_slot.slots ≤ room_1.slots := Nat.le_trans (Nat.add_le_add_left (Nat.le_of_ble_eq_true rfl) slots) hsr
  refine lv_istore (lv' := [(6, .int (cE [xIA] E)), (5, .int (nI i)), (4, .ref o2), (3, .ref o1), (2, .ref (gm 0)), (1, .ref (gc 0)), (0, .ref b)]) hx hb dL_law_989 hl (by decide) rfl (fun ls hl => ?_)
  refine lv_aload_n hx hb dL_law_991 rfl (lv_at hl 4 rfl) ?_
  refine lv_aload_n hx hb dL_law_992 rfl (lv_at hl 6 rfl) ?_
  refine lv_iload hx hb dL_law_993 (lv_at hl 1 rfl) ?_
  refine lv_iconst (v := 1) hx hb dL_law_995 (by decide) ?_
  refine lv_iadd hx hb dL_law_996 ?_
  refine tpi (y := nI (i + 1)) (nI_add i 1) ?_
  refine sld C hS (j := i + 1) (by omega) rfl dL_law_997 ?_
  refine lv_aload_n hx hb dL_law_998 rfl (lv_at hl 6 rfl) ?_
  refine lv_iload hx hb dL_law_999 (lv_at hl 1 rfl) ?_
  refine lv_iconst (v := 2) hx hb dL_law_1001 (by decide) ?_
  refine lv_iadd hx hb dL_law_1002 ?_
  refine tpi (y := nI (i + 2)) (nI_add i 2) ?_
  refine sld C hS (j := i + 2) (by omega) rfl dL_law_1003 ?_
  refine lmI (As := [.int (xs (i + 1)), .int (xs (i + 2))]) (rest := []) C J I hS (hM gm (gd_Lm J.1.2.1)) (cwV 2 hts gL_law_X5_slot rfl rfl rfl hdX5_slot ⟨(Nat.le_of_ble_eq_true rfl), (Nat.le_of_ble_eq_true rfl)⟩) rfl rfl rfl hl.1 rfl (Nat.le_of_ble_eq_true rfl) dL_law_1004 ⟨hcr2, hsr2⟩ (fun H locs I hS => ?_)
  refine lv_istore (lv' := [(7, .int rM), (6, .int (cE [xIA] E)), (5, .int (nI i)), (4, .ref o2), (3, .ref o1), (2, .ref (gm 0)), (1, .ref (gc 0)), (0, .ref b)]) hx hb dL_law_1007 hl (by decide) rfl (fun ls hl => ?_)
  refine lv_aload_n hx hb dL_law_1009 rfl (lv_at hl 5 rfl) ?_
  refine lmI (As := []) (rest := []) C J I hS (kX5_thrown (gd_Lm J.1.2.1) v2) (cwV 0 hts gL_law_X5_thrown rfl rfl rfl hdX5_thrown ⟨(Nat.le_of_ble_eq_true rfl), (Nat.le_of_ble_eq_true rfl)⟩) rfl rfl rfl hl.1 rfl (Nat.le_of_ble_eq_true rfl) dL_law_1010 ⟨hcr2, hsr2⟩ (fun H locs I hS => ?_)
  refine lv_iload hx hb dL_law_1013 (lv_at hl 1 rfl) ?_
  refine lv_icmp_eq (tgt := 1020) hx hb dL_law_1015 (by decide) (fun c1 => ?_) (fun c1 => ?_)
  · skip
    refine lv_iload hx hb dL_law_1020 (lv_at hl 1 rfl) ?_
    refine lv_if_ne (tgt := 1037) hx hb dL_law_1022 (by decide) (fun c2 => ?_) (fun c2 => ?_)
    · skip
      refine lv_goto (tgt := 1187) hx hb dL_law_1037 (by decide) ?_
      refine W.widen (k := cells + 6) (n := slots + 36) (Nat.add_le_add_left (Nat.le_of_ble_eq_true rfl) cells) (Nat.add_le_add_left (Nat.le_of_ble_eq_true rfl) slots) ?_
      exact kk _ _ _ _ _ _ _ hR I hS (lv_sub hl [2, 3, 4, 5, 6, 7] rfl)
    · have hn9 := cE_0 c2 (by decide)
      subst hn9
      have he9 := heq rfl
      subst he9
      refine lv_aload_n hx hb dL_law_1025 rfl (lv_at hl 4 rfl) ?_
      refine lv_iconst (v := 0) hx hb dL_law_1026 (by decide) ?_
      refine va_lald hx hb C.2.2.1.1 I.2.2.1 0 1 rfl rfl (vin (n := 1) (by decide) (by decide) (show (0 : Int32) = nI 0 from rfl)) dL_law_1027 ?_
      refine tpl (y := (r.toInt64)) rfl ?_
      refine lv_iload hx hb dL_law_1028 (lv_at hl 0 rfl) ?_
      refine lv_i2l hx hb dL_law_1030 rfl ?_
      refine W.lcmp hx hb dL_law_1031 ?_
      refine bleq (tgt := 1037) hx hb dL_law_1032 (by decide) (fun c3 => ?_) (fun c3 => ?_)
      · skip
        refine lv_goto (tgt := 1187) hx hb dL_law_1037 (by decide) ?_
        refine W.widen (k := cells + 6) (n := slots + 36) (Nat.add_le_add_left (Nat.le_of_ble_eq_true rfl) cells) (Nat.add_le_add_left (Nat.le_of_ble_eq_true rfl) slots) ?_
        exact kk _ _ _ _ _ _ _ hR I hS (lv_sub hl [2, 3, 4, 5, 6, 7] rfl)
      · exact absurd (by first | rfl | exact if_pos c4 | exact if_neg c4) c3
  · exact absurd hthr c1

set_option maxHeartbeats 4000000 in
set_option maxRecDepth 100000 in
theorem law_entries {p : Program} {l : Launch} {e : Env} {s : State} {m : MethodId} {below : List Frame} {meth : Method} {c : Code} {H : Heap} {locs : List Loc} {cells slots : Nat} {Q : State → Prop} {b L i : Nat} {xs : Nat → Int32} {ls : Array Slot} {D : va_G} {K : Nat → ClassId} {gc gm : Nat → Nat} {o1 o2 : Nat} {u : CU} {v : MU} {f : AL} {fd : Nat → UInt64} {Rel : CU → MU → Prop}
    (C : LC p l s m meth c b L xs D K) (J : LD s gc gm o1 o2) (I : LI D K gc gm o1 o2 u v f fd H) (hS : va_S (A0 s) s.heap H locs) (hi : i + 4 ≤ L) (hcr : cells + 6 ≤ room_1.cells) (hsr : slots + 36 ≤ room_1.slots) (hl : lv_has ls 8 [(5, .int (nI i)), (4, .ref o2), (3, .ref o1), (2, .ref (gm 0)), (1, .ref (gc 0)), (0, .ref b)]) (hop : OPi l D K yX4_entries wsX4_entries rmX4_entries yX5_entries wsX5_entries rmX5_entries [xIA] Rel [.int (xs (i + 1))] u v)
    (kk : ∀ (u' : CU) (v' : MU) (f' : AL) (fd' : Nat → UInt64) (H1 : Heap) (locs1 : List Loc) (ls1 : Array Slot), Rel u' v' → LI D K gc gm o1 o2 u' v' f' fd' H1 → va_S (A0 s) s.heap H1 locs1 → lv_has ls1 8 [(5, .int (nI i)), (4, .ref o2), (3, .ref o1), (2, .ref (gm 0)), (1, .ref (gc 0)), (0, .ref b)] → W p l e room_1 s m #[.ref b] below meth c H1 locs1 (cells + 6) (slots + 36) Q (F0 m 1187 ls1 [])) : W p l e room_1 s m #[.ref b] below meth c H locs cells slots Q (F0 m 1040 ls []) := by
  obtain ⟨hx, hb, hml, hown, hts⟩ := C.1
  have hL9 : L ≤ 2048 := C.2.1.2.2
  obtain ⟨u2, v2, E, r, rM, hC, hM, hE3, hthr, heq, hR⟩ := hop
  refine lv_aload_n hx hb dL_law_1040 rfl (lv_at hl 4 rfl) ?_
  refine lv_aload_n hx hb dL_law_1041 rfl (lv_at hl 5 rfl) ?_
  refine lv_iload hx hb dL_law_1042 (lv_at hl 0 rfl) ?_
  refine lv_iconst (v := 1) hx hb dL_law_1044 (by decide) ?_
  refine lv_iadd hx hb dL_law_1045 ?_
  refine tpi (y := nI (i + 1)) (nI_add i 1) ?_
  refine sld C hS (j := i + 1) (by omega) rfl dL_law_1046 ?_
  refine lv_aload_n hx hb dL_law_1047 rfl (lv_at hl 2 rfl) ?_
  refine lwS (As := [.ref (gc 0), .int (xs (i + 1)), .ref o1]) (rest := []) C J I hS (kL_entries (gd_Lo (o := o1) J.1.1) (o := o1) (Or.inr rfl) (fun i hi => (J.2.2.1 i hi).1) _ (hC gc (gd_Lg J.1.1)) (fun X h9 => by have h8 := hE3 X h9; simpa using h8) f) (vx_cwSW 3 hts gL_law_L_entries rfl rfl rfl hdL_entries.2 ⟨(Nat.le_of_ble_eq_true rfl), (Nat.le_of_ble_eq_true rfl)⟩) rfl hl.1 rfl (Nat.le_of_ble_eq_true rfl) dL_law_1048 ⟨Nat.le_trans (Nat.add_le_add_left (Nat.le_of_ble_eq_true rfl) cells) hcr, Nat.le_trans (Nat.add_le_add_left (Nat.le_of_ble_eq_true rfl) slots) hsr⟩ (fun H locs I hS => ?_)
  have hcr2 : cells + rmL_entries.cells ≤ room_1.cells := Nat.le_trans (Nat.add_le_add_left (Nat.le_of_ble_eq_true rfl) cells) hcr
  have hsr2 : slots + rmL_entries.slots ≤ room_1.slots := Nat.le_trans (Nat.add_le_add_left (Nat.le_of_ble_eq_true rfl) slots) hsr
  refine lv_istore (lv' := [(6, .int (cE [xIA] E)), (5, .int (nI i)), (4, .ref o2), (3, .ref o1), (2, .ref (gm 0)), (1, .ref (gc 0)), (0, .ref b)]) hx hb dL_law_1051 hl (by decide) rfl (fun ls hl => ?_)
  refine lv_aload_n hx hb dL_law_1053 rfl (lv_at hl 4 rfl) ?_
  refine lv_aload_n hx hb dL_law_1054 rfl (lv_at hl 6 rfl) ?_
  refine lv_iload hx hb dL_law_1055 (lv_at hl 1 rfl) ?_
  refine lv_iconst (v := 1) hx hb dL_law_1057 (by decide) ?_
  refine lv_iadd hx hb dL_law_1058 ?_
  refine tpi (y := nI (i + 1)) (nI_add i 1) ?_
  refine sld C hS (j := i + 1) (by omega) rfl dL_law_1059 ?_
  refine lmI (As := [.int (xs (i + 1))]) (rest := []) C J I hS (hM gm (gd_Lm J.1.2.1)) (cwV 1 hts gL_law_X5_entries rfl rfl rfl hdX5_entries ⟨(Nat.le_of_ble_eq_true rfl), (Nat.le_of_ble_eq_true rfl)⟩) rfl rfl rfl hl.1 rfl (Nat.le_of_ble_eq_true rfl) dL_law_1060 ⟨hcr2, hsr2⟩ (fun H locs I hS => ?_)
  refine lv_istore (lv' := [(7, .int rM), (6, .int (cE [xIA] E)), (5, .int (nI i)), (4, .ref o2), (3, .ref o1), (2, .ref (gm 0)), (1, .ref (gc 0)), (0, .ref b)]) hx hb dL_law_1063 hl (by decide) rfl (fun ls hl => ?_)
  refine lv_aload_n hx hb dL_law_1065 rfl (lv_at hl 5 rfl) ?_
  refine lmI (As := []) (rest := []) C J I hS (kX5_thrown (gd_Lm J.1.2.1) v2) (cwV 0 hts gL_law_X5_thrown rfl rfl rfl hdX5_thrown ⟨(Nat.le_of_ble_eq_true rfl), (Nat.le_of_ble_eq_true rfl)⟩) rfl rfl rfl hl.1 rfl (Nat.le_of_ble_eq_true rfl) dL_law_1066 ⟨hcr2, hsr2⟩ (fun H locs I hS => ?_)
  refine lv_iload hx hb dL_law_1069 (lv_at hl 1 rfl) ?_
  refine lv_icmp_eq (tgt := 1076) hx hb dL_law_1071 (by decide) (fun c1 => ?_) (fun c1 => ?_)
  · skip
    refine lv_iload hx hb dL_law_1076 (lv_at hl 1 rfl) ?_
    refine lv_if_ne (tgt := 1093) hx hb dL_law_1078 (by decide) (fun c2 => ?_) (fun c2 => ?_)
    · skip
      refine lv_goto (tgt := 1187) hx hb dL_law_1093 (by decide) ?_
      refine W.widen (k := cells + 6) (n := slots + 36) (Nat.add_le_add_left (Nat.le_of_ble_eq_true rfl) cells) (Nat.add_le_add_left (Nat.le_of_ble_eq_true rfl) slots) ?_
      exact kk _ _ _ _ _ _ _ hR I hS (lv_sub hl [2, 3, 4, 5, 6, 7] rfl)
    · have hn9 := cE_0 c2 (by decide)
      subst hn9
      have he9 := heq rfl
      subst he9
      refine lv_aload_n hx hb dL_law_1081 rfl (lv_at hl 4 rfl) ?_
      refine lv_iconst (v := 0) hx hb dL_law_1082 (by decide) ?_
      refine va_lald hx hb C.2.2.1.1 I.2.2.1 0 1 rfl rfl (vin (n := 1) (by decide) (by decide) (show (0 : Int32) = nI 0 from rfl)) dL_law_1083 ?_
      refine tpl (y := (r.toInt64)) rfl ?_
      refine lv_iload hx hb dL_law_1084 (lv_at hl 0 rfl) ?_
      refine lv_i2l hx hb dL_law_1086 rfl ?_
      refine W.lcmp hx hb dL_law_1087 ?_
      refine bleq (tgt := 1093) hx hb dL_law_1088 (by decide) (fun c3 => ?_) (fun c3 => ?_)
      · skip
        refine lv_goto (tgt := 1187) hx hb dL_law_1093 (by decide) ?_
        refine W.widen (k := cells + 6) (n := slots + 36) (Nat.add_le_add_left (Nat.le_of_ble_eq_true rfl) cells) (Nat.add_le_add_left (Nat.le_of_ble_eq_true rfl) slots) ?_
        exact kk _ _ _ _ _ _ _ hR I hS (lv_sub hl [2, 3, 4, 5, 6, 7] rfl)
      · exact absurd (by first | rfl | exact if_pos c4 | exact if_neg c4) c3
  · exact absurd hthr c1

set_option maxHeartbeats 4000000 in
set_option maxRecDepth 100000 in
theorem law_fullness {p : Program} {l : Launch} {e : Env} {s : State} {m : MethodId} {below : List Frame} {meth : Method} {c : Code} {H : Heap} {locs : List Loc} {cells slots : Nat} {Q : State → Prop} {b L i : Nat} {xs : Nat → Int32} {ls : Array Slot} {D : va_G} {K : Nat → ClassId} {gc gm : Nat → Nat} {o1 o2 : Nat} {u : CU} {v : MU} {f : AL} {fd : Nat → UInt64} {Rel : CU → MU → Prop}
    (C : LC p l s m meth c b L xs D K) (J : LD s gc gm o1 o2) (I : LI D K gc gm o1 o2 u v f fd H) (hS : va_S (A0 s) s.heap H locs) (hi : i + 4 ≤ L) (hcr : cells + 6 ≤ room_1.cells) (hsr : slots + 36 ≤ room_1.slots) (hl : lv_has ls 8 [(5, .int (nI i)), (4, .ref o2), (3, .ref o1), (2, .ref (gm 0)), (1, .ref (gc 0)), (0, .ref b)]) (hop : OPf l D K yX4_fullness wsX4_fullness rmX4_fullness yX5_fullness wsX5_fullness rmX5_fullness [xIA] Rel [.int (xs (i + 1))] u v)
    (kk : ∀ (u' : CU) (v' : MU) (f' : AL) (fd' : Nat → UInt64) (H1 : Heap) (locs1 : List Loc) (ls1 : Array Slot), Rel u' v' → LI D K gc gm o1 o2 u' v' f' fd' H1 → va_S (A0 s) s.heap H1 locs1 → lv_has ls1 8 [(5, .int (nI i)), (4, .ref o2), (3, .ref o1), (2, .ref (gm 0)), (1, .ref (gc 0)), (0, .ref b)] → W p l e room_1 s m #[.ref b] below meth c H1 locs1 (cells + 6) (slots + 36) Q (F0 m 1187 ls1 [])) : W p l e room_1 s m #[.ref b] below meth c H locs cells slots Q (F0 m 1096 ls []) := by
  obtain ⟨hx, hb, hml, hown, hts⟩ := C.1
  have hL9 : L ≤ 2048 := C.2.1.2.2
  obtain ⟨u2, v2, E, j, rM, hC, hM, hE3, hthr, heq, hj9, hR⟩ := hop
  refine lv_aload_n hx hb dL_law_1096 rfl (lv_at hl 4 rfl) ?_
  refine lv_aload_n hx hb dL_law_1097 rfl (lv_at hl 5 rfl) ?_
  refine lv_iload hx hb dL_law_1098 (lv_at hl 0 rfl) ?_
  refine lv_iconst (v := 1) hx hb dL_law_1100 (by decide) ?_
  refine lv_iadd hx hb dL_law_1101 ?_
  refine tpi (y := nI (i + 1)) (nI_add i 1) ?_
  refine sld C hS (j := i + 1) (by omega) rfl dL_law_1102 ?_
  refine lv_aload hx hb dL_law_1103 (lv_at hl 1 rfl) ?_
  refine lwD (As := [.ref (gc 0), .int (xs (i + 1)), .ref o2]) (rest := []) C J I hS (kL_fullness (gd_Lo (o := o2) J.1.1) (o := o2) (Or.inr rfl) (fun i hi => (J.2.2.1 i hi).2) _ (hC gc (gd_Lg J.1.1)) (fun X h9 => by have h8 := hE3 X h9; simpa using h8) (f2d_all j hj9) fd) (vx_cwSW 3 hts gL_law_L_fullness rfl rfl rfl hdL_fullness.2 ⟨(Nat.le_of_ble_eq_true rfl), (Nat.le_of_ble_eq_true rfl)⟩) rfl hl.1 rfl (Nat.le_of_ble_eq_true rfl) dL_law_1105 ⟨Nat.le_trans (Nat.add_le_add_left (Nat.le_of_ble_eq_true rfl) cells) hcr, Nat.le_trans (Nat.add_le_add_left (Nat.le_of_ble_eq_true rfl) slots) hsr⟩ (fun H locs I hS => ?_)
  have hcr2 : cells + rmL_fullness.cells ≤ room_1.cells := Nat.le_trans (Nat.add_le_add_left (Nat.le_of_ble_eq_true rfl) cells) hcr
  have hsr2 : slots + rmL_fullness.slots ≤ room_1.slots := Nat.le_trans (Nat.add_le_add_left (Nat.le_of_ble_eq_true rfl) slots) hsr
  refine lv_istore (lv' := [(6, .int (cE [xIA] E)), (5, .int (nI i)), (4, .ref o2), (3, .ref o1), (2, .ref (gm 0)), (1, .ref (gc 0)), (0, .ref b)]) hx hb dL_law_1108 hl (by decide) rfl (fun ls hl => ?_)
  refine lv_aload_n hx hb dL_law_1110 rfl (lv_at hl 4 rfl) ?_
  refine lv_aload_n hx hb dL_law_1111 rfl (lv_at hl 6 rfl) ?_
  refine lv_iload hx hb dL_law_1112 (lv_at hl 1 rfl) ?_
  refine lv_iconst (v := 1) hx hb dL_law_1114 (by decide) ?_
  refine lv_iadd hx hb dL_law_1115 ?_
  refine tpi (y := nI (i + 1)) (nI_add i 1) ?_
  refine sld C hS (j := i + 1) (by omega) rfl dL_law_1116 ?_
  refine lmF (As := [.int (xs (i + 1))]) (rest := []) C J I hS (hM gm (gd_Lm J.1.2.1)) (cwV 1 hts gL_law_X5_fullness rfl rfl rfl hdX5_fullness ⟨(Nat.le_of_ble_eq_true rfl), (Nat.le_of_ble_eq_true rfl)⟩) rfl rfl rfl hl.1 rfl (Nat.le_of_ble_eq_true rfl) dL_law_1117 ⟨hcr2, hsr2⟩ (fun H locs I hS => ?_)
  refine lv_fstore (lv' := [(7, .float rM), (6, .int (cE [xIA] E)), (5, .int (nI i)), (4, .ref o2), (3, .ref o1), (2, .ref (gm 0)), (1, .ref (gc 0)), (0, .ref b)]) hx hb dL_law_1120 hl (by decide) rfl (fun ls hl => ?_)
  refine lv_aload_n hx hb dL_law_1122 rfl (lv_at hl 5 rfl) ?_
  refine lmI (As := []) (rest := []) C J I hS (kX5_thrown (gd_Lm J.1.2.1) v2) (cwV 0 hts gL_law_X5_thrown rfl rfl rfl hdX5_thrown ⟨(Nat.le_of_ble_eq_true rfl), (Nat.le_of_ble_eq_true rfl)⟩) rfl rfl rfl hl.1 rfl (Nat.le_of_ble_eq_true rfl) dL_law_1123 ⟨hcr2, hsr2⟩ (fun H locs I hS => ?_)
  refine lv_iload hx hb dL_law_1126 (lv_at hl 1 rfl) ?_
  refine lv_icmp_eq (tgt := 1133) hx hb dL_law_1128 (by decide) (fun c1 => ?_) (fun c1 => ?_)
  · skip
    refine lv_iload hx hb dL_law_1133 (lv_at hl 1 rfl) ?_
    refine lv_if_ne (tgt := 1171) hx hb dL_law_1135 (by decide) (fun c2 => ?_) (fun c2 => ?_)
    · skip
      refine lv_goto (tgt := 1187) hx hb dL_law_1171 (by decide) ?_
      refine W.widen (k := cells + 6) (n := slots + 36) (Nat.add_le_add_left (Nat.le_of_ble_eq_true rfl) cells) (Nat.add_le_add_left (Nat.le_of_ble_eq_true rfl) slots) ?_
      exact kk _ _ _ _ _ _ _ hR I hS (lv_sub hl [2, 3, 4, 5, 6, 7] rfl)
    · have hn9 := cE_0 c2 (by decide)
      subst hn9
      have he9 := heq rfl
      subst he9
      refine lv_aload hx hb dL_law_1138 (lv_at hl 3 rfl) ?_
      refine lv_iconst (v := 0) hx hb dL_law_1140 (by decide) ?_
      refine va_dald hx hb C.2.2.1.1 I.2.2.2 0 4 rfl rfl (vin (n := 1) (by decide) (by decide) (show (0 : Int32) = nI 0 from rfl)) dL_law_1141 ?_
      refine tpd (y := FP.f2d (fdv j)) rfl ?_
      refine lv_fload hx hb dL_law_1142 (lv_at hl 0 rfl) ?_
      refine lv_f2d hx hb dL_law_1144 (f2d_all j hj9) ?_
      refine lv_dcmp hx hb dL_law_1145 ?_
      refine lv_if_eq (tgt := 1171) hx hb dL_law_1146 (by decide) (fun c3 => ?_) (fun c3 => ?_)
      · skip
        refine lv_goto (tgt := 1187) hx hb dL_law_1171 (by decide) ?_
        refine W.widen (k := cells + 6) (n := slots + 36) (Nat.add_le_add_left (Nat.le_of_ble_eq_true rfl) cells) (Nat.add_le_add_left (Nat.le_of_ble_eq_true rfl) slots) ?_
        exact kk _ _ _ _ _ _ _ hR I hS (lv_sub hl [2, 3, 4, 5, 6, 7] rfl)
      · exact absurd (dcmp_all j hj9) c3
  · exact absurd hthr c1

set_option maxHeartbeats 4000000 in
set_option maxRecDepth 100000 in
theorem law_oldest {p : Program} {l : Launch} {e : Env} {s : State} {m : MethodId} {below : List Frame} {meth : Method} {c : Code} {H : Heap} {locs : List Loc} {cells slots : Nat} {Q : State → Prop} {b L i : Nat} {xs : Nat → Int32} {ls : Array Slot} {D : va_G} {K : Nat → ClassId} {gc gm : Nat → Nat} {o1 o2 : Nat} {u : CU} {v : MU} {f : AL} {fd : Nat → UInt64} {Rel : CU → MU → Prop}
    (C : LC p l s m meth c b L xs D K) (J : LD s gc gm o1 o2) (I : LI D K gc gm o1 o2 u v f fd H) (hS : va_S (A0 s) s.heap H locs) (hi : i + 4 ≤ L) (hcr : cells + 6 ≤ room_1.cells) (hsr : slots + 36 ≤ room_1.slots) (hl : lv_has ls 8 [(5, .int (nI i)), (4, .ref o2), (3, .ref o1), (2, .ref (gm 0)), (1, .ref (gc 0)), (0, .ref b)]) (hop : ∃ r : Int32, (∀ g, gd (Lg g) g 29 → CI l yX4_oldest wsX4_oldest rmX4_oldest D K (Lg g) [.ref (g 0)] (wC K g u) (wC K g u) r) ∧ ∃ v2, (∀ g, gd (Lm g) g 14 → CI l yX5_oldest wsX5_oldest rmX5_oldest D K (Lm g) [.ref (g 0)] (wM K g v) (wM K g v2) r) ∧ Rel u v2)
    (kk : ∀ (u' : CU) (v' : MU) (f' : AL) (fd' : Nat → UInt64) (H1 : Heap) (locs1 : List Loc) (ls1 : Array Slot), Rel u' v' → LI D K gc gm o1 o2 u' v' f' fd' H1 → va_S (A0 s) s.heap H1 locs1 → lv_has ls1 8 [(5, .int (nI i)), (4, .ref o2), (3, .ref o1), (2, .ref (gm 0)), (1, .ref (gc 0)), (0, .ref b)] → W p l e room_1 s m #[.ref b] below meth c H1 locs1 (cells + 6) (slots + 36) Q (F0 m 1187 ls1 [])) : W p l e room_1 s m #[.ref b] below meth c H locs cells slots Q (F0 m 1174 ls []) := by
  obtain ⟨hx, hb, hml, hown, hts⟩ := C.1
  have hL9 : L ≤ 2048 := C.2.1.2.2
  obtain ⟨r, hC, v2, hM, hR⟩ := hop
  refine lv_aload_n hx hb dL_law_1174 rfl (lv_at hl 4 rfl) ?_
  refine lcI (As := []) (rest := []) C J I hS (hC gc (gd_Lg J.1.1)) (cwV 0 hts gL_law_X4_oldest rfl rfl rfl hdX4_oldest ⟨(Nat.le_of_ble_eq_true rfl), (Nat.le_of_ble_eq_true rfl)⟩) rfl rfl rfl hl.1 rfl (Nat.le_of_ble_eq_true rfl) dL_law_1175 ⟨Nat.le_trans (Nat.le_add_right _ _) hcr, Nat.le_trans (Nat.le_add_right _ _) hsr⟩ (fun H locs I hS => ?_)
  refine lv_aload_n hx hb dL_law_1178 rfl (lv_at hl 3 rfl) ?_
  refine lmI (As := []) (rest := [.int r]) C J I hS (hM gm (gd_Lm J.1.2.1)) (cwV 0 hts gL_law_X5_oldest rfl rfl rfl hdX5_oldest ⟨(Nat.le_of_ble_eq_true rfl), (Nat.le_of_ble_eq_true rfl)⟩) rfl rfl rfl hl.1 rfl (Nat.le_of_ble_eq_true rfl) dL_law_1179 ⟨Nat.le_trans (Nat.le_add_right _ _) hcr, Nat.le_trans (Nat.le_add_right _ _) hsr⟩ (fun H locs I hS => ?_)
  refine lv_icmp_eq (tgt := 1187) hx hb dL_law_1182 (by decide) (fun c1 => ?_) (fun c1 => ?_)
  · skip
    refine W.widen (k := cells + 6) (n := slots + 36) (Nat.le_add_right _ _) (Nat.le_add_right _ _) ?_
    exact kk _ _ _ _ _ _ _ hR I hS (lv_sub hl [0, 1, 2, 3, 4, 5] rfl)
  · exact absurd rfl c1

/-! ===== truth values as ints, rows that name what stands on top, rows of a test of a truth value ===== -/
noncomputable def fb (q : Prop) : Int32 := @ite _ q (Classical.propDecidable q) 1 0
theorem fb_t {q : Prop} (h : q) : fb q = 1 := by unfold fb; exact if_pos h
theorem fb_f {q : Prop} (h : ¬ q) : fb q = 0 := by unfold fb; exact if_neg h
theorem t_fb {q : Prop} (h : q) : 1 = fb q := (fb_t h).symm
theorem f_fb {q : Prop} (h : ¬ q) : 0 = fb q := (fb_f h).symm
theorem fb_c {q r : Prop} (h : q ↔ r) : fb q = fb r := by rw [propext h]
theorem fb_z {q : Prop} : fb q = 0 ↔ ¬ q := by
  by_cases h : q
  · rw [fb_t h]; exact ⟨fun k => absurd k (by decide), fun k => absurd h k⟩
  · rw [fb_f h]; exact ⟨fun _ => h, fun _ => rfl⟩
theorem fb_e {q r : Prop} (h : fb q = fb r) : q ↔ r := by
  by_cases hq : q <;> by_cases hr : r
  · exact ⟨fun _ => hr, fun _ => hq⟩
  · rw [fb_t hq, fb_f hr] at h; exact absurd h (by decide)
  · rw [fb_f hq, fb_t hr] at h; exact absurd h (by decide)
  · exact ⟨fun k => absurd k hq, fun k => absurd k hr⟩
theorem fb_nar {q : Prop} : narrow .boolean (.int (fb q)) = .int (fb q) := by
  by_cases h : q
  · rw [fb_t h]; rfl
  · rw [fb_f h]; rfl
theorem fb_vp {q : Prop} : vp_nar .boolean (fb q) = fb q := by
  by_cases h : q
  · rw [fb_t h]; rfl
  · rw [fb_f h]; rfl
theorem i_lt (a b : Int32) : a < b ↔ a.toInt < b.toInt := Int32.lt_iff_toInt_lt
theorem i_le (a b : Int32) : a ≤ b ↔ a.toInt ≤ b.toInt := Int32.le_iff_toInt_le
theorem i_eq (a b : Int32) : a = b ↔ a.toInt = b.toInt := ⟨fun h => by rw [h], fun h => Int32.toInt_inj.mp h⟩
theorem i_nlt {a b : Int32} (h : ¬ a < b) : b ≤ a := by rw [i_lt] at h; rw [i_le]; omega
theorem i_nle {a b : Int32} (h : ¬ a ≤ b) : b < a := by rw [i_le] at h; rw [i_lt]; omega
theorem i_ltn {a b : Int32} (h : a < b) : ¬ b ≤ a := by rw [i_lt] at h; rw [i_le]; omega
theorem i_len {a b : Int32} (h : a ≤ b) : ¬ b < a := by rw [i_le] at h; rw [i_lt]; omega
theorem nlt_i {a b : Nat} (ha : a < 2 ^ 31) (hb : b < 2 ^ 31) (h : ¬ nI b ≤ nI a) : a < b := by
  rw [nI_leI hb ha] at h; omega
theorem nge_i {a b : Nat} (ha : a < 2 ^ 31) (hb : b < 2 ^ 31) (h : nI b ≤ nI a) : b ≤ a := (nI_leI hb ha).mp h
theorem nltI {a b : Nat} (ha : a < 2 ^ 31) (hb : b < 2 ^ 31) (h : nI a < nI b) : a < b := (nI_ltI ha hb).mp h
theorem nnltI {a b : Nat} (ha : a < 2 ^ 31) (hb : b < 2 ^ 31) (h : ¬ nI a < nI b) : b ≤ a := by
  rw [nI_ltI ha hb] at h; omega
/-- an int between 0 and N is one of the first N numbers -/
theorem nI_rng {x : Int32} {N : Nat} (hN : N < 2 ^ 31) (h0 : ¬ x < 0) (h1 : ¬ nI N ≤ x) : ∃ j : Nat, j < N ∧ x = nI j := by
  obtain ⟨j, hj, rfl⟩ := nI_of h0
  exact ⟨j, nlt_i hj hN h1, rfl⟩
theorem nI_m1 (n : Nat) (h : n < 2 ^ 31) : nI n ≠ -1 := by
  intro k
  have := congrArg Int32.toInt k
  rw [nI_toInt h] at this
  have e : (-1 : Int32).toInt = -1 := rfl
  omega
theorem ng_xIS : ∀ q ∈ (vx_atS RX4 53 xIS ["java/lang/RuntimeException", "java/lang/Exception"]).filter (fun q => !goodWord q), q ∈ [Cond.castable xIS xIS, Cond.declares (Bundle.initS "java/lang/RuntimeException"), Cond.declares (Bundle.initS "java/lang/Exception"), Cond.declares (Bundle.initS "java/lang/Throwable")] := by decide +kernel
theorem ng_xIA : ∀ q ∈ (vx_atS RX4 87 xIA ["java/lang/RuntimeException", "java/lang/Exception"]).filter (fun q => !goodWord q), q ∈ [Cond.castable xIA xIA, Cond.declares (Bundle.initS "java/lang/RuntimeException"), Cond.declares (Bundle.initS "java/lang/Exception"), Cond.declares (Bundle.initS "java/lang/Throwable")] := by decide +kernel
theorem ng_xIO : ∀ q ∈ (vx_atS RX4 237 xIO ["java/lang/RuntimeException", "java/lang/Exception"]).filter (fun q => !goodWord q), q ∈ [Cond.castable xIO xIO, Cond.declares (Bundle.initS "java/lang/RuntimeException"), Cond.declares (Bundle.initS "java/lang/Exception"), Cond.declares (Bundle.initS "java/lang/Throwable")] := by decide +kernel
theorem gd_xIS {ik : Nat} : ∀ q ∈ Cond.classLink RX4 ik xIS :: Cond.initialized xIS :: vx_atS RX4 53 xIS ["java/lang/RuntimeException", "java/lang/Exception"], vx_ot q = true := List.forall_mem_cons.mpr ⟨rfl, List.forall_mem_cons.mpr ⟨rfl, by decide +kernel⟩⟩
theorem gd_xIA {ik : Nat} : ∀ q ∈ Cond.classLink RX4 ik xIA :: Cond.initialized xIA :: vx_atS RX4 87 xIA ["java/lang/RuntimeException", "java/lang/Exception"], vx_ot q = true := List.forall_mem_cons.mpr ⟨rfl, List.forall_mem_cons.mpr ⟨rfl, by decide +kernel⟩⟩
theorem gd_xIO {ik : Nat} : ∀ q ∈ Cond.classLink RX4 ik xIO :: Cond.initialized xIO :: vx_atS RX4 237 xIO ["java/lang/RuntimeException", "java/lang/Exception"], vx_ot q = true := List.forall_mem_cons.mpr ⟨rfl, List.forall_mem_cons.mpr ⟨rfl, by decide +kernel⟩⟩
theorem ft_xIS : Bundle.fit xIS = true := by decide +kernel
theorem ft_xIA : Bundle.fit xIA = true := by decide +kernel
theorem ft_xIO : Bundle.fit xIO = true := by decide +kernel
section PRIMS
variable {p : Program} {l : Launch} {e : Env} {R : Room} {s : State} {m : MethodId} {args : Array Value} {below : List Frame} {meth : Method} {c : Code} {H : Heap} {locs : List Loc} {cells slots : Nat} {Q : State → Prop}
variable {cc : ByteArray} {pc : Nat} {ls : Array Slot} {rest : List Value}
theorem tpi {x y : Int32} (h : x = y) (k : W p l e R s m args below meth c H locs cells slots Q (F0 m pc ls (.int y :: rest))) : W p l e R s m args below meth c H locs cells slots Q (F0 m pc ls (.int x :: rest)) := by rw [h]; exact k
theorem tpl {x y : Int64} (h : x = y) (k : W p l e R s m args below meth c H locs cells slots Q (F0 m pc ls (.long y :: rest))) : W p l e R s m args below meth c H locs cells slots Q (F0 m pc ls (.long x :: rest)) := by rw [h]; exact k
theorem bzeq (hx : p.tables.exec = Jvm.exec) (hb : c.code = cc) {q : Prop} {off : Int} {tgt : Nat} (hdg : decode cc pc = .ok (.ifCond .eq off, 3)) (ht : (pc : Int) + off = (tgt : Int))
    (kt : ¬ q → W p l e R s m args below meth c H locs cells slots Q (F0 m tgt ls rest)) (kf : q → W p l e R s m args below meth c H locs cells slots Q (F0 m (pc + 3) ls rest)) : W p l e R s m args below meth c H locs cells slots Q (F0 m pc ls (.int (fb q) :: rest)) :=
  lv_if_eq hx hb hdg ht (fun h => kt (fb_z.mp h)) (fun h => kf (Classical.byContradiction fun k => h (fb_z.mpr k)))
theorem bzne (hx : p.tables.exec = Jvm.exec) (hb : c.code = cc) {q : Prop} {off : Int} {tgt : Nat} (hdg : decode cc pc = .ok (.ifCond .ne off, 3)) (ht : (pc : Int) + off = (tgt : Int))
    (kt : q → W p l e R s m args below meth c H locs cells slots Q (F0 m tgt ls rest)) (kf : ¬ q → W p l e R s m args below meth c H locs cells slots Q (F0 m (pc + 3) ls rest)) : W p l e R s m args below meth c H locs cells slots Q (F0 m pc ls (.int (fb q) :: rest)) :=
  lv_if_ne hx hb hdg ht (fun h => kt (Classical.byContradiction fun k => h (fb_z.mpr k))) (fun h => kf (fb_z.mp h))
theorem bleq (hx : p.tables.exec = Jvm.exec) (hb : c.code = cc) {x y : Int64} {off : Int} {tgt : Nat} (hdg : decode cc pc = .ok (.ifCond .eq off, 3)) (ht : (pc : Int) + off = (tgt : Int))
    (kt : x = y → W p l e R s m args below meth c H locs cells slots Q (F0 m tgt ls rest)) (kf : ¬ x = y → W p l e R s m args below meth c H locs cells slots Q (F0 m (pc + 3) ls rest)) : W p l e R s m args below meth c H locs cells slots Q (F0 m pc ls (.int (lg_cmp x y) :: rest)) :=
  lv_if_eq hx hb hdg ht (fun h => kt ((lg_cmp_eq x y).mp h)) (fun h => kf (fun k => h ((lg_cmp_eq x y).mpr k)))
theorem blne (hx : p.tables.exec = Jvm.exec) (hb : c.code = cc) {x y : Int64} {off : Int} {tgt : Nat} (hdg : decode cc pc = .ok (.ifCond .ne off, 3)) (ht : (pc : Int) + off = (tgt : Int))
    (kt : ¬ x = y → W p l e R s m args below meth c H locs cells slots Q (F0 m tgt ls rest)) (kf : x = y → W p l e R s m args below meth c H locs cells slots Q (F0 m (pc + 3) ls rest)) : W p l e R s m args below meth c H locs cells slots Q (F0 m pc ls (.int (lg_cmp x y) :: rest)) :=
  lv_if_ne hx hb hdg ht (fun h => kt (fun k => h ((lg_cmp_eq x y).mpr k))) (fun h => kf ((lg_cmp_eq x y).mp h))
end PRIMS

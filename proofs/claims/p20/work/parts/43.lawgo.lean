/-! ===== the law: from its entry ===== -/
theorem Kof {s : State} {args : Array Value} {ty : FieldType} (h : (Cond.arrayClass ty).before args s = true) (hp : ∀ c : ClassId, s.vm.findClass ("[" ++ ty.toString) = some c → va_RA s c ty) : ∃ c : ClassId, ArrOfT s c ty ∧ va_RA s c ty := by
  obtain ⟨c, k, comp, h1, h2, h3⟩ := Cond.arrayClass_spec h
  exact ⟨c, fun n z => ⟨fun k9 h9 => (by cases h9), k, h2, comp, h3⟩, hp c h1⟩
theorem K3of {s : State} (h : va_AOA .int s) : ∃ c : ClassId, ArrOfT s c (.array .int) ∧ va_RA s c (.array .int) := by
  obtain ⟨comp, c, k, h1, h2, h3, h4⟩ := Cond.arrayOver_specA h
  exact ⟨c, fun n z => ⟨fun k9 h9 => (by cases h9), k, h2, comp, h3⟩, h4⟩
theorem law_ev {s : State} {args : Array Value} (hts : ∀ w ∈ lw_tbl, w.before args s = true) (hgv : (Jvm.Cond.and given_1 narrow_1).before args s = true) : ∃ (D : va_G) (K : Nat → ClassId), ev D K (A0 s) s := by
  have hg := flat_of_before _ hgv
  obtain ⟨c0, iS0, hKn0⟩ := u_known (C := RX0) (T := TX0) (N := 2) (n := 2) hts inX0 (hts (.instantiable RX0 2) (by decide +kernel))
  obtain ⟨c1, iS1, hKn1⟩ := u_known (C := RX1) (T := TX1) (N := 9) (n := 9) hts inX1 (hts (.instantiable RX1 9) (by decide +kernel))
  obtain ⟨c2, iS2, hKn2⟩ := u_known (C := RX2) (T := TX2) (N := 5) (n := 5) hts inX2 (hts (.instantiable RX2 5) (by decide +kernel))
  obtain ⟨c3, iS3, hKn3⟩ := u_known (C := RX3) (T := TX3) (N := 6) (n := 6) hts inX3 (hts (.instantiable RX3 6) (by decide +kernel))
  obtain ⟨c4, iS4, hKn4⟩ := u_known (C := RX4) (T := TX4) (N := 6) (n := 6) hts inX4 (hts (.instantiable RX4 6) (by decide +kernel))
  obtain ⟨k0, hk0⟩ := Kof (hts (.arrayClass .int) (by decide +kernel)) (fun c h => h)
  obtain ⟨k1, hk1⟩ := Kof (hts (.arrayClass .long) (by decide +kernel)) (fun c h => h)
  obtain ⟨k2, hk2⟩ := Kof (hts (.arrayClass .boolean) (by decide +kernel)) (fun c h => h)
  obtain ⟨k3, hk3⟩ := K3of (va_AOA.of (hts (.arrayOver (.array .int)) (by decide +kernel)))
  have hA : ∀ a : Nat, a < s.heap.size → ¬ A0 s a := fun a h h2 => absurd h (Nat.not_lt.mpr (A0_i.mp h2))
  refine ⟨(fun k => match k with | 0 => c0 | 1 => c1 | 2 => c2 | 3 => c3 | _ => c4, fun k => match k with | 0 => iS0 | 1 => iS1 | 2 => iS2 | 3 => iS3 | _ => iS4), (fun k => match k with | 0 => k0 | 1 => k1 | 2 => k2 | _ => k3), ⟨fun k q hq => ?_, fun k q hq => ?_⟩, va_Nw.of rfl (hts _ (by decide +kernel)), ?_, ?_, fun q hq => ?_, fun X hX => ?_, fun Y hY => ?_⟩
  · match k, hq with
    | 0, hq => cases hq; exact hKn0
    | 1, hq => cases hq; exact hKn1
    | 2, hq => cases hq; exact hKn2
    | 3, hq => cases hq; exact hKn3
    | 4, hq => cases hq; exact hKn4
    | k + 5, hq => cases hq
  · match k, hq with
    | 0, hq => cases hq; exact hk0
    | 1, hq => cases hq; exact hk1
    | 2, hq => cases hq; exact hk2
    | 3, hq => cases hq; exact hk3
    | k + 4, hq => cases hq
  · exact vx_Zqof (hts _ (by decide +kernel)) (hts _ (by decide +kernel)) (hg _ (by decide +kernel)) hA
  · exact vx_Zqof (hts _ (by decide +kernel)) (hts _ (by decide +kernel)) (hg _ (by decide +kernel)) hA
  · have hw : ∀ q ∈ strL, Cond.stringRef RX4 q.1 q.2 ∈ lw_tbl := by decide +kernel
    obtain ⟨-, -, -, sa, -, -, -, -, -, hev⟩ := Cond.stringRef_spec hKn4.2.1 (hts _ (hw q hq))
    exact ⟨sa, vk_R.of (hts _ (hw q hq)) hev⟩
  · have hw : ∀ X ∈ [xIS, xIA, xIO], Cond.castable X X ∈ lw_tbl := by decide +kernel
    exact va_Nw.of rfl (hts _ (hw X hX))
  · have hw : ∀ Y ∈ dcL, Cond.declares (Bundle.initS Y) ∈ lw_tbl := by decide +kernel
    exact va_Nw.of rfl (hts _ (hw Y hY))
theorem law_Z4 {s : State} {args : Array Value} (hts : ∀ w ∈ lw_tbl, w.before args s = true) : Z4 s := ⟨va_Nw.of rfl (hts _ (by decide +kernel)), va_Nw.of rfl (hts _ (by decide +kernel)), va_Nw.of rfl (hts _ (by decide +kernel)), va_AOA.of (hts _ (by decide +kernel))⟩
theorem lwin {s : State} {args : Array Value} (hts : ∀ w ∈ lw_tbl, w.before args s = true) : ∀ w ∈ wsL_law, w.before args s = true := fun w h => hts w (wsL_law_in w h)
theorem Z4.warm {s U : State} (hW : s.WarmedH U.vm) (h : Z4 s) : Z4 U := ⟨va_Nw.warmM hW h.1, va_Nw.warmM hW h.2.1, va_Nw.warmM hW h.2.2.1, va_AOA.moved hW.alike h.2.2.2⟩
theorem Z4.same {u U : State} (hv : u.vm = U.vm) (h : Z4 u) : Z4 U := ⟨va_Nw.same rfl hv h.1, va_Nw.same rfl hv h.2.1, va_Nw.same rfl hv h.2.2.1, va_AOA.moved (hv ▸ Vm.Alike.refl u.vm) h.2.2.2⟩
theorem LDof {s : State} {ws : va_W} {g : Nat → Nat} {o1 o2 : Nat} (hD : va_D (A0 s) ws) (hm : ws.map (·.1) = (List.range 29).map g ++ [o1, o2]) : LD s g o1 o2 := by
  have one : ∀ (i j x : Nat), (ws.map (·.1))[i]? = some x → (ws.map (·.1))[j]? = some x → i = j := by
    intro i j x hi hj
    rw [List.getElem?_map] at hi hj
    obtain ⟨p, hp, ep⟩ := Option.map_eq_some_iff.mp hi
    obtain ⟨q, hq, eq⟩ := Option.map_eq_some_iff.mp hj
    exact hD.1 i j p q hp hq (ep.trans eq.symm)
  have two : ∀ (i x : Nat), (ws.map (·.1))[i]? = some x → s.heap.size ≤ x := by
    intro i x hi
    rw [List.getElem?_map] at hi
    obtain ⟨p, hp, ep⟩ := Option.map_eq_some_iff.mp hi
    have h := A0_i.mp (hD.2 i p hp)
    rw [ep] at h; exact h
  rw [hm] at one two
  have hc : ∀ i, i < 29 → ((List.range 29).map g ++ [o1, o2])[i]? = some (g i) := by
    intro i hi
    rw [List.getElem?_append_left (by rw [List.length_map, List.length_range]; exact hi), List.getElem?_map, List.getElem?_range hi]; rfl
  have hr : ∀ j, ((List.range 29).map g ++ [o1, o2])[29 + j]? = [o1, o2][j]? := by
    intro j
    rw [List.getElem?_append_right (by rw [List.length_map, List.length_range]; omega), List.length_map, List.length_range, show 29 + j - 29 = j by omega]
  have h1 : ((List.range 29).map g ++ [o1, o2])[29 + 0]? = some o1 := by rw [hr]; rfl
  have h2 : ((List.range 29).map g ++ [o1, o2])[29 + 1]? = some o2 := by rw [hr]; rfl
  refine ⟨⟨⟨fun i j hi hj h => one i j _ (hc i hi) (by rw [h]; exact hc j hj), fun i hi => two i _ (hc i hi)⟩, two _ _ h1, two _ _ h2⟩, fun h => ?_, fun i hi => ⟨fun h => ?_, fun h => ?_⟩⟩
  · have := one (29 + 0) (29 + 1) o1 h1 (h2.trans (congrArg some h.symm)); omega
  · have := one _ _ _ (hc i hi) (by rw [h]; exact h1); omega
  · have := one _ _ _ (hc i hi) (by rw [h]; exact h2); omega
set_option maxHeartbeats 4000000 in
set_option maxRecDepth 100000 in
theorem law_go {p : Program} {l : Launch} {e : Env} {s : State} {m : MethodId} {below : List Frame} {meth : Method} {c : Code} {Q : State → Prop} {b L : Nat} {xs : Nat → Int32} {D : va_G} {K : Nat → ClassId} {ls : Array Slot}
    (C : LC p l s m meth c b L xs D K) (hZ4 : Z4 s) (hend : ∀ (H : Heap) (ls : Array Slot), W p l e room_1 s m #[.ref b] below meth c H [] 650680 7149427 Q (F0 m 1143 ls [.int 1])) (hl : lv_has ls 17 [(0, .ref b)]) : W p l e room_1 s m #[.ref b] below meth c s.heap [] 0 0 Q (F0 m 0 ls []) := by
  obtain ⟨hx, hb, hml, hown, hts⟩ := C.1
  have hE := C.2.2.1
  have S : CallFix p m c code 17 s #[.ref b] wsL_law RL := ⟨hx, hb, hml, hown, hts⟩
  have hS : va_S (A0 s) s.heap s.heap [] := va_S.rf
  have hA : ∀ q, s.heap.size ≤ q → A0 s q := fun q h => A0_i.mpr h
  have hP : va_P D vwCl [] s.heap := fun k q h => by cases h
  have hD : va_D (A0 s) [] := ⟨fun i j p q h => (by cases h), fun k q h => (by cases h)⟩
  refine va_new (D := D) (ci := 4) (fs := [.null, .null, .null, .null, .null, .int 0]) (C := RX4) (T := TX4) (N := 6) hx hb hts inlX4 tyX4 tyX4_ok hown (hts (.classLink RL 8 RX4) (by decide +kernel)) (hts (.instantiable RX4 6) (by decide +kernel)) (hts (.initialized RX4) (by decide +kernel)) hE.1 hP hD hS hA rfl (fun j hj => by rcases (show j = 0 ∨ j = 1 ∨ j = 2 ∨ j = 3 ∨ j = 4 ∨ j = 5 by omega) with rfl | rfl | rfl | rfl | rfl | rfl <;> rfl) (Nat.le_of_ble_eq_true rfl) (Nat.le_of_ble_eq_true rfl) dL_law_0 (fun q0 H hP hD hS => ?_)
  have hP : va_P D vwCl [(q0, .inr (4, [.null, .null, .null, .null, .null, .int 0]))] H := hP
  have hD : va_D (A0 s) [(q0, .inr (4, [.null, .null, .null, .null, .null, .int 0]))] := hD
  refine lv_dup hx hb dL_law_3 rfl ?_
  have hF : ∀ x, fr (fun z => z = q0) H.size x → A0 s x := fun x h9 => h9.elim (fun h9 => by rw [h9]; exact hD.2 0 _ rfl) (fun h9 => A0_i.mpr (Nat.le_trans hS.1 h9))
  refine nvP (rest := [.ref q0]) S (kX4_init q0) (cwI 0 hts gL_law_X4_init rfl rfl rfl (hts (.initialized RX4) (by decide +kernel)) (hts (.methodLink RL 55 yX4_init) (by decide +kernel)) (hts (.instanceMethod yX4_init) (by decide +kernel)) rfl hdX4_init.2 ⟨Nat.le_of_ble_eq_true rfl, Nat.le_of_ble_eq_true rfl⟩) (fun U hW => hZ4.warm hW) (fun a U g mk h => h.same (U := U.calling g mk a) rfl) hE hP hS hF hl.1 rfl (Nat.le_of_ble_eq_true rfl) dL_law_4 ⟨Nat.le_of_ble_eq_true rfl, Nat.le_of_ble_eq_true rfl⟩ (fun h1 H1 locs hP1 hD1 hk1 hz1 hS => ?_)
  obtain ⟨hP, hD⟩ := njoin (wr := []) hP hD [0] [] rfl rfl (by decide) (by decide) hk1 hF hP1 hD1
  generalize H1 = H at hP hS ⊢
  have hP : va_P D vwCl (wC K (gb q0 h1) u0C) H := hP
  have hD : va_D (A0 s) (wC K (gb q0 h1) u0C) := hD
  generalize hgc : gb q0 h1 = g at hP hD
  have e0 : q0 = g 0 := by rw [← hgc]; rfl
  rw [e0]
  refine lv_astore_n (lv' := [(1, .ref (g 0)), (0, .ref b)]) hx hb dL_law_7 rfl hl (by decide) rfl (fun ls hl => ?_)
  refine lv_bipush (v := 6) hx hb dL_law_8 (by decide) ?_
  refine naI (N := 6) hx hb (hts (.arrayClass .int) (by decide +kernel)) hE hP hD hS hA (by decide) (by decide +kernel) (Nat.le_of_ble_eq_true rfl) (Nat.le_of_ble_eq_true rfl) (Nat.le_of_ble_eq_true rfl) dL_law_10 (fun o1 H hP hD hS => ?_)
  refine lv_astore_n (lv' := [(2, .ref o1), (1, .ref (g 0)), (0, .ref b)]) hx hb dL_law_12 rfl hl (by decide) rfl (fun ls hl => ?_)
  refine lv_bipush (v := 36) hx hb dL_law_13 (by decide) ?_
  refine naI (N := 36) hx hb (hts (.arrayClass .int) (by decide +kernel)) hE hP hD hS hA (by decide) (by decide +kernel) (Nat.le_of_ble_eq_true rfl) (Nat.le_of_ble_eq_true rfl) (Nat.le_of_ble_eq_true rfl) dL_law_15 (fun o2 H hP hD hS => ?_)
  refine lv_astore_n (lv' := [(3, .ref o2), (2, .ref o1), (1, .ref (g 0)), (0, .ref b)]) hx hb dL_law_17 rfl hl (by decide) rfl (fun ls hl => ?_)
  refine W.widen (k := 100 + 12 * 0) (n := 5000 + 60 * 0) (Nat.le_of_ble_eq_true rfl) (Nat.le_of_ble_eq_true rfl) ?_
  have J : LD s g o1 o2 := LDof hD rfl
  refine sg_start (n := 0) (N := 0) (tt := 0) C J (u := u0C) (fw := fun _ => 0) (hw := fun _ => 0) ⟨hP.sub (List.range 29) rfl, hP.sub [29] rfl, hP.sub [30] rfl⟩ hS (by show _ ≤ 650680; decide) (by show _ ≤ 7149427; decide) hl (fun f hf => lz0 hf) (fun tz ff htz hL H1 locs1 ls1 I1 hS1 hl1 => ?_)
  exact law_loop C J htz hend 400 0 u0C 0 ff (fun _ => 0) hL (by omega) (by omega) H1 locs1 ls1 I1 hS1 hl1

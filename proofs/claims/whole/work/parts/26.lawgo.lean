/-! ===== the law: from its entry to its loop ===== -/
theorem lwin {s : State} {args : Array Value} (hts : ∀ w ∈ lw_tbl, w.before args s = true) : ∀ w ∈ wsL_law, w.before args s = true := fun w h => hts w (wsL_law_in w h)
theorem Z4.warm {s U : State} (hW : s.WarmedH U.vm) (h : Z4 s) : Z4 U := ⟨va_Nw.warmM hW h.1, va_Nw.warmM hW h.2.1, va_Nw.warmM hW h.2.2.1, va_AOA.moved hW.alike h.2.2.2⟩
theorem Z4.same {u U : State} (hv : u.vm = U.vm) (h : Z4 u) : Z4 U := ⟨va_Nw.same rfl hv h.1, va_Nw.same rfl hv h.2.1, va_Nw.same rfl hv h.2.2.1, va_AOA.moved (hv ▸ Vm.Alike.refl u.vm) h.2.2.2⟩
theorem LDof {s : State} {ws : va_W} {gc gm : Nat → Nat} {o1 o2 : Nat} (hD : va_D (A0 s) ws) (hm : ws.map (·.1) = (List.range 29).map gc ++ ((List.range 14).map gm ++ [o1, o2])) : LD s gc gm o1 o2 := by
  have one : ∀ (i j x : Nat), (ws.map (·.1))[i]? = some x → (ws.map (·.1))[j]? = some x → i = j := by
    intro i j x hi hj
    rw [List.getElem?_map] at hi hj
    obtain ⟨p, hp, ep⟩ := Option.map_eq_some_iff.mp hi
    obtain ⟨q, hq, eq⟩ := Option.map_eq_some_iff.mp hj
    exact hD.1 i j p q hp hq (ep.trans eq.symm)
  have two : ∀ (i x : Nat), (ws.map (·.1))[i]? = some x → s.heap.size ≤ x := by
    intro i x hi
    rw [List.getElem?_map] at hi
    obtain ⟨p, hp, ep⟩ := Option.map_eq_some_iff.mp hi
    have h := A0_i.mp (hD.2 i p hp)
    rw [ep] at h; exact h
  rw [hm] at one two
  have hc : ∀ i, i < 29 → ((List.range 29).map gc ++ ((List.range 14).map gm ++ [o1, o2]))[i]? = some (gc i) := by
    intro i hi
    rw [List.getElem?_append_left (by rw [List.length_map, List.length_range]; exact hi), List.getElem?_map, List.getElem?_range hi]; rfl
  have hr : ∀ j, ((List.range 29).map gc ++ ((List.range 14).map gm ++ [o1, o2]))[29 + j]? = ((List.range 14).map gm ++ [o1, o2])[j]? := by
    intro j
    rw [List.getElem?_append_right (by rw [List.length_map, List.length_range]; omega), List.length_map, List.length_range, show 29 + j - 29 = j by omega]
  have hg : ∀ j, j < 14 → ((List.range 29).map gc ++ ((List.range 14).map gm ++ [o1, o2]))[29 + j]? = some (gm j) := by
    intro j hj
    rw [hr, List.getElem?_append_left (by rw [List.length_map, List.length_range]; exact hj), List.getElem?_map, List.getElem?_range hj]; rfl
  have h1 : ((List.range 29).map gc ++ ((List.range 14).map gm ++ [o1, o2]))[29 + 14]? = some o1 := by rw [hr]; rfl
  have h2 : ((List.range 29).map gc ++ ((List.range 14).map gm ++ [o1, o2]))[29 + 15]? = some o2 := by rw [hr]; rfl
  refine ⟨⟨⟨fun i j hi hj h => one i j _ (hc i hi) (by rw [h]; exact hc j hj), fun i hi => two i _ (hc i hi)⟩, ⟨fun i j hi hj h => by have := one (29 + i) (29 + j) _ (hg i hi) (by rw [h]; exact hg j hj); omega, fun i hi => two _ _ (hg i hi)⟩, two _ _ h1, two _ _ h2⟩, ?_, fun i hi => ⟨?_, ?_⟩, fun j hj => ⟨?_, ?_⟩, ?_⟩
  · intro h; have := one (29 + 14) (29 + 15) _ h1 (by rw [h]; exact h2); omega
  · intro h; have := one i (29 + 14) _ (hc i hi) (by rw [h]; exact h1); omega
  · intro h; have := one i (29 + 15) _ (hc i hi) (by rw [h]; exact h2); omega
  · intro h; have := one (29 + j) (29 + 14) _ (hg j hj) (by rw [h]; exact h1); omega
  · intro h; have := one (29 + j) (29 + 15) _ (hg j hj) (by rw [h]; exact h2); omega
  · intro i j hi hj h; have := one i (29 + j) _ (hc i hi) (by rw [h]; exact hg j hj); omega
theorem naD {p : Program} {l : Launch} {e : Env} {R : Room} {s : State} {m : MethodId} {args : Array Value} {below : List Frame} {meth : Method} {c : Code} {H : Heap} {locs : List Loc} {cells slots : Nat} {Q : State → Prop} {cc : ByteArray} {pc : Nat} {ls : Array Slot} {D : va_G} {K : Nat → ClassId} {A A9 : Nat → Prop} {w : va_W} {rest : List Value}
    (hx : p.tables.exec = Jvm.exec) (hb : c.code = cc) (harr : (Cond.arrayClass .double).before args s = true) (hE : ev D K A9 s) (hP : va_P D vwCl w H) (hD : va_D A w) (hS : va_S A s.heap H locs) (hA : ∀ q, s.heap.size ≤ q → A q) {n : Int32} {N : Nat} (hn : ¬ n < 0) (hN : n.toNatClampNeg = N) (hbytes : N * componentBytes .double ≤ 536870912) (hcells : cells + 1 ≤ R.cells) (hslots : slots + N ≤ R.slots) (hdg : decode cc pc = .ok (.newarray .double, 2))
    (kk : ∀ (q : Nat) (H1 : Heap), va_P D vwCl (w ++ [(q, .inl (K 4, N, .inr (.inr (.inr (.inl (fun _ => 0))))))]) H1 → va_D A (w ++ [(q, .inl (K 4, N, .inr (.inr (.inr (.inl (fun _ => 0))))))]) → va_S A s.heap H1 locs → W p l e R s m args below meth c H1 locs (cells + 1) (slots + N) Q (F0 m (pc + 2) ls (.ref q :: rest))) : W p l e R s m args below meth c H locs cells slots Q (F0 m pc ls (.int n :: rest)) := by
  refine va_newa (atype := .double) (ty := .double) hx hb harr rfl hE.1 hP hD hS hA (a0 := (N, .inr (.inr (.inr (.inl (fun _ => 0)))))) (fun cA => rfl) hn hN hbytes hcells hslots hdg (fun q cA H1 hK1 hP1 hD1 hS1 => ?_)
  have e9 : cA = K 4 := Option.some.inj ((hK1.2 5 (cA, .double) rfl).2.symm.trans (hE.1.2 4 (K 4, .double) rfl).2)
  subst e9
  exact kk q H1 hP1 hD1 hS1
set_option maxHeartbeats 4000000 in
set_option maxRecDepth 100000 in
theorem law_go {p : Program} {l : Launch} {e : Env} {s : State} {m : MethodId} {below : List Frame} {meth : Method} {c : Code} {Q : State → Prop} {b L : Nat} {xs : Nat → Int32} {D : va_G} {K : Nat → ClassId} {Rel : Nat → CU → MU → Prop} {ls : Array Slot}
    (C : LC p l s m meth c b L xs D K) (hZ4 : Z4 s) (hR0 : Rel 0 u0C u0M) (hops : RelOK l D K Rel) (hend : ∀ (H : Heap) (ls : Array Slot), W p l e room_1 s m #[.ref b] below meth c H [] 601024 7293034 Q (F0 m 1194 ls [.int 1])) (hl : lv_has ls 8 [(0, .ref b)]) : W p l e room_1 s m #[.ref b] below meth c s.heap [] 0 0 Q (F0 m 0 ls []) := by
  obtain ⟨hx, hb, hml, hown, hts⟩ := C.1
  have hE := C.2.2.1
  have S : CallFix p m c code 8 s #[.ref b] wsL_law RL := ⟨hx, hb, hml, hown, hts⟩
  have hS : va_S (A0 s) s.heap s.heap [] := va_S.rf
  have hA : ∀ q, s.heap.size ≤ q → A0 s q := fun q h => A0_i.mpr h
  have hP : va_P D vwCl [] s.heap := fun k q h => by cases h
  have hD : va_D (A0 s) [] := ⟨fun i j p q h => (by cases h), fun k q h => (by cases h)⟩
  refine va_new (D := D) (ci := 4) (fs := [.null, .null, .null, .null, .null, .int 0]) (C := RX4) (T := TX4) (N := 6) hx hb hts inlX4 tyX4 tyX4_ok hown (hts (.classLink RL 8 RX4) (by decide +kernel)) (hts (.instantiable RX4 6) (by decide +kernel)) (hts (.initialized RX4) (by decide +kernel)) hE.1 hP hD hS hA rfl (fun j hj => by rcases (show j = 0 ∨ j = 1 ∨ j = 2 ∨ j = 3 ∨ j = 4 ∨ j = 5 by omega) with rfl | rfl | rfl | rfl | rfl | rfl <;> rfl) (Nat.le_of_ble_eq_true rfl) (Nat.le_of_ble_eq_true rfl) dL_law_0 (fun q0 H hP hD hS => ?_)
  have hP : va_P D vwCl [(q0, .inr (4, [.null, .null, .null, .null, .null, .int 0]))] H := hP
  have hD : va_D (A0 s) [(q0, .inr (4, [.null, .null, .null, .null, .null, .int 0]))] := hD
  refine lv_dup hx hb dL_law_3 rfl ?_
  have hF : ∀ x, fr (fun z => z = q0) H.size x → A0 s x := fun x h9 => h9.elim (fun h9 => by rw [h9]; exact hD.2 0 _ rfl) (fun h9 => A0_i.mpr (Nat.le_trans hS.1 h9))
  refine nvP (rest := [.ref q0]) S (kX4_init q0) (cwI 0 hts gL_law_X4_init rfl rfl rfl (hts (.initialized RX4) (by decide +kernel)) (hts (.methodLink RL 71 yX4_init) (by decide +kernel)) (hts (.instanceMethod yX4_init) (by decide +kernel)) rfl hdX4_init.2 ⟨Nat.le_of_ble_eq_true rfl, Nat.le_of_ble_eq_true rfl⟩) (fun U hW => hZ4.warm hW) (fun a U g mk h => h.same (U := U.calling g mk a) rfl) hE hP hS hF hl.1 rfl (Nat.le_of_ble_eq_true rfl) dL_law_4 ⟨Nat.le_of_ble_eq_true rfl, Nat.le_of_ble_eq_true rfl⟩ (fun h1 H1 locs hP1 hD1 hk1 hz1 hS => ?_)
  obtain ⟨hP, hD⟩ := njoin (wr := []) hP hD [0] [] rfl rfl (by decide) (by decide) hk1 hF hP1 hD1
  generalize H1 = H at hP hS ⊢
  have hP : va_P D vwCl (wC K (gb q0 h1) u0C) H := hP
  have hD : va_D (A0 s) (wC K (gb q0 h1) u0C) := hD
  generalize hgc : gb q0 h1 = gc at hP hD
  have e0 : q0 = gc 0 := by rw [← hgc]; rfl
  rw [e0]
  refine lv_astore_n (lv' := [(1, .ref (gc 0)), (0, .ref b)]) hx hb dL_law_7 rfl hl (by decide) rfl (fun ls hl => ?_)
  refine va_new (D := D) (ci := 5) (fs := [.int 0, .int 0, .int 0, .null, .null, .null, .int 0, .null, .null, .null, .null, .null, .null, .null, .null, .null, .null]) (C := RX5) (T := TX5) (N := 17) hx hb hts inlX5 tyX5 tyX5_ok hown (hts (.classLink RL 72 RX5) (by decide +kernel)) (hts (.instantiable RX5 17) (by decide +kernel)) (hts (.initialized RX5) (by decide +kernel)) hE.1 hP hD hS hA rfl (fun j hj => by rcases (show j = 0 ∨ j = 1 ∨ j = 2 ∨ j = 3 ∨ j = 4 ∨ j = 5 ∨ j = 6 ∨ j = 7 ∨ j = 8 ∨ j = 9 ∨ j = 10 ∨ j = 11 ∨ j = 12 ∨ j = 13 ∨ j = 14 ∨ j = 15 ∨ j = 16 by omega) with rfl | rfl | rfl | rfl | rfl | rfl | rfl | rfl | rfl | rfl | rfl | rfl | rfl | rfl | rfl | rfl | rfl <;> rfl) (Nat.le_of_ble_eq_true rfl) (Nat.le_of_ble_eq_true rfl) dL_law_8 (fun q8 H hP hD hS => ?_)
  have hP : va_P D vwCl (wC K gc u0C ++ [(q8, .inr (5, [.int 0, .int 0, .int 0, .null, .null, .null, .int 0, .null, .null, .null, .null, .null, .null, .null, .null, .null, .null]))]) H := hP
  have hD : va_D (A0 s) (wC K gc u0C ++ [(q8, .inr (5, [.int 0, .int 0, .int 0, .null, .null, .null, .int 0, .null, .null, .null, .null, .null, .null, .null, .null, .null, .null]))]) := hD
  refine lv_dup hx hb dL_law_11 rfl ?_
  have hF : ∀ x, fr (fun z => z = q8) H.size x → A0 s x := fun x h9 => h9.elim (fun h9 => by rw [h9]; exact hD.2 29 _ rfl) (fun h9 => A0_i.mpr (Nat.le_trans hS.1 h9))
  refine nvP (rest := [.ref q8]) S (kX5_init q8) (cwI 0 hts gL_law_X5_init rfl rfl rfl (hts (.initialized RX5) (by decide +kernel)) (hts (.methodLink RL 74 yX5_init) (by decide +kernel)) (hts (.instanceMethod yX5_init) (by decide +kernel)) rfl hdX5_init.2 ⟨Nat.le_of_ble_eq_true rfl, Nat.le_of_ble_eq_true rfl⟩) (fun _ _ => trivial) (fun _ _ _ _ _ => trivial) hE (hP.sub [29] rfl) hS hF hl.1 rfl (Nat.le_of_ble_eq_true rfl) dL_law_12 ⟨Nat.le_of_ble_eq_true rfl, Nat.le_of_ble_eq_true rfl⟩ (fun h2 H1 locs hP1 hD1 hk1 hz1 hS => ?_)
  obtain ⟨hP, hD⟩ := njoin (wr := wC K gc u0C) hP hD [29] (List.range 29) rfl rfl (by decide) (by decide) hk1 hF hP1 hD1
  generalize H1 = H at hP hS ⊢
  have hP : va_P D vwCl (wC K gc u0C ++ wM K (gb q8 h2) u0M) H := hP
  have hD : va_D (A0 s) (wC K gc u0C ++ wM K (gb q8 h2) u0M) := hD
  generalize hgm : gb q8 h2 = gm at hP hD
  have e8 : q8 = gm 0 := by rw [← hgm]; rfl
  rw [e8]
  refine lv_astore_n (lv' := [(2, .ref (gm 0)), (1, .ref (gc 0)), (0, .ref b)]) hx hb dL_law_15 rfl hl (by decide) rfl (fun ls hl => ?_)
  refine lv_iconst (v := 1) hx hb dL_law_16 (by decide) ?_
  refine naJ (N := 1) hx hb (hts (.arrayClass .long) (by decide +kernel)) hE hP hD hS hA (by decide) (by decide +kernel) (Nat.le_of_ble_eq_true rfl) (Nat.le_of_ble_eq_true rfl) (Nat.le_of_ble_eq_true rfl) dL_law_17 (fun o1 H hP hD hS => ?_)
  refine lv_astore_n (lv' := [(3, .ref o1), (2, .ref (gm 0)), (1, .ref (gc 0)), (0, .ref b)]) hx hb dL_law_19 rfl hl (by decide) rfl (fun ls hl => ?_)
  refine lv_iconst (v := 1) hx hb dL_law_20 (by decide) ?_
  refine naD (N := 1) hx hb (hts (.arrayClass .double) (by decide +kernel)) hE hP hD hS hA (by decide) (by decide +kernel) (Nat.le_of_ble_eq_true rfl) (Nat.le_of_ble_eq_true rfl) (Nat.le_of_ble_eq_true rfl) dL_law_21 (fun o2 H hP hD hS => ?_)
  refine lv_astore (lv' := [(4, .ref o2), (3, .ref o1), (2, .ref (gm 0)), (1, .ref (gc 0)), (0, .ref b)]) hx hb dL_law_23 hl (by decide) rfl (fun ls hl => ?_)
  refine lv_iconst (v := 0) hx hb dL_law_25 (by decide) ?_
  refine lv_istore (lv' := [(5, .int (nI (4 * 0))), (4, .ref o2), (3, .ref o1), (2, .ref (gm 0)), (1, .ref (gc 0)), (0, .ref b)]) hx hb dL_law_26 hl (by decide) rfl (fun ls hl => ?_)
  refine W.widen (k := 100 + 6 * 0) (n := 4000 + 36 * 0) (Nat.le_of_ble_eq_true rfl) (Nat.le_of_ble_eq_true rfl) ?_
  have J : LD s gc gm o1 o2 := LDof hD rfl
  exact law_loop C J hops hend 600 0 u0C u0M (fun _ => 0) (fun _ => 0) hR0 (by omega) (by omega) H locs ls ⟨hP.sub (List.range 29) rfl, hP.sub ((List.range 14).map (fun i => 29 + i)) rfl, hP.sub [43] rfl, hP.sub [44] rfl⟩ hS hl

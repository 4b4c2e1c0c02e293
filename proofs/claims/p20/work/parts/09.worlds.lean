/-! ===== the two worlds ===== -/
/-- what the class holds -/
abbrev CU : Type := (((((AI) × (AL)) × ((Int32) × (Int32))) × (((Int64) × (Int64)) × ((AI) × (Int32)))) × ((((((AI) × (AI)) × (AI)) × ((AI) × (AI))) × (((AI) × (AI)) × ((AI) × (AI)))) × ((((Nat → AI) × (AI)) × ((AI) × (AI))) × (((AI) × (AI)) × (Int32)))))
/-- what the reference holds -/
abbrev MU : Type := ((((((Int32) × (Int32)) × (Int32)) × ((AI) × (AI))) × (((AL) × (Int32)) × ((AI) × (AI)))) × ((((AI) × (AI)) × ((AI) × (AI))) × (((AI) × (AI)) × ((AI) × (AI)))))
def c_sp (u : CU) : AI := u.1.1.1.1
def c_sn (u : CU) : AL := u.1.1.1.2
def c_cn (u : CU) : Int32 := u.1.1.2.1
def c_ns (u : CU) : Int32 := u.1.1.2.2
def c_ac (u : CU) : Int64 := u.1.2.1.1
def c_cm (u : CU) : Int64 := u.1.2.1.2
def c_mp (u : CU) : AI := u.1.2.2.1
def c_fz (u : CU) : Int32 := u.1.2.2.2
def c_k (u : CU) : AI := u.2.1.1.1.1.1
def c_v (u : CU) : AI := u.2.1.1.1.1.2
def c_b (u : CU) : AI := u.2.1.1.1.2
def c_bs (u : CU) : AI := u.2.1.1.2.1
def c_f (u : CU) : AI := u.2.1.1.2.2
def c_d (u : CU) : AI := u.2.1.2.1.1
def c_ds (u : CU) : AI := u.2.1.2.1.2
def c_n (u : CU) : AI := u.2.1.2.2.1
def c_r (u : CU) : AI := u.2.1.2.2.2
def c_pl (u : CU) : Nat → AI := u.2.2.1.1.1
def c_ct (u : CU) : AI := u.2.2.1.1.2
def c_tk (u : CU) : AI := u.2.2.1.2.1
def c_tv (u : CU) : AI := u.2.2.1.2.2
def c_tb (u : CU) : AI := u.2.2.2.1.1
def c_td (u : CU) : AI := u.2.2.2.1.2
def c_tc (u : CU) : Int32 := u.2.2.2.2
def s_sp (u : CU) (x : AI) : CU := ((((x, u.1.1.1.2), u.1.1.2), u.1.2), u.2)
def s_sn (u : CU) (x : AL) : CU := ((((u.1.1.1.1, x), u.1.1.2), u.1.2), u.2)
def s_cn (u : CU) (x : Int32) : CU := (((u.1.1.1, (x, u.1.1.2.2)), u.1.2), u.2)
def s_ns (u : CU) (x : Int32) : CU := (((u.1.1.1, (u.1.1.2.1, x)), u.1.2), u.2)
def s_ac (u : CU) (x : Int64) : CU := ((u.1.1, ((x, u.1.2.1.2), u.1.2.2)), u.2)
def s_cm (u : CU) (x : Int64) : CU := ((u.1.1, ((u.1.2.1.1, x), u.1.2.2)), u.2)
def s_mp (u : CU) (x : AI) : CU := ((u.1.1, (u.1.2.1, (x, u.1.2.2.2))), u.2)
def s_fz (u : CU) (x : Int32) : CU := ((u.1.1, (u.1.2.1, (u.1.2.2.1, x))), u.2)
def s_k (u : CU) (x : AI) : CU := (u.1, (((((x, u.2.1.1.1.1.2), u.2.1.1.1.2), u.2.1.1.2), u.2.1.2), u.2.2))
def s_v (u : CU) (x : AI) : CU := (u.1, (((((u.2.1.1.1.1.1, x), u.2.1.1.1.2), u.2.1.1.2), u.2.1.2), u.2.2))
def s_b (u : CU) (x : AI) : CU := (u.1, ((((u.2.1.1.1.1, x), u.2.1.1.2), u.2.1.2), u.2.2))
def s_bs (u : CU) (x : AI) : CU := (u.1, (((u.2.1.1.1, (x, u.2.1.1.2.2)), u.2.1.2), u.2.2))
def s_f (u : CU) (x : AI) : CU := (u.1, (((u.2.1.1.1, (u.2.1.1.2.1, x)), u.2.1.2), u.2.2))
def s_d (u : CU) (x : AI) : CU := (u.1, ((u.2.1.1, ((x, u.2.1.2.1.2), u.2.1.2.2)), u.2.2))
def s_ds (u : CU) (x : AI) : CU := (u.1, ((u.2.1.1, ((u.2.1.2.1.1, x), u.2.1.2.2)), u.2.2))
def s_n (u : CU) (x : AI) : CU := (u.1, ((u.2.1.1, (u.2.1.2.1, (x, u.2.1.2.2.2))), u.2.2))
def s_r (u : CU) (x : AI) : CU := (u.1, ((u.2.1.1, (u.2.1.2.1, (u.2.1.2.2.1, x))), u.2.2))
def s_pl (u : CU) (x : Nat → AI) : CU := (u.1, (u.2.1, (((x, u.2.2.1.1.2), u.2.2.1.2), u.2.2.2)))
def s_ct (u : CU) (x : AI) : CU := (u.1, (u.2.1, (((u.2.2.1.1.1, x), u.2.2.1.2), u.2.2.2)))
def s_tk (u : CU) (x : AI) : CU := (u.1, (u.2.1, ((u.2.2.1.1, (x, u.2.2.1.2.2)), u.2.2.2)))
def s_tv (u : CU) (x : AI) : CU := (u.1, (u.2.1, ((u.2.2.1.1, (u.2.2.1.2.1, x)), u.2.2.2)))
def s_tb (u : CU) (x : AI) : CU := (u.1, (u.2.1, (u.2.2.1, ((x, u.2.2.2.1.2), u.2.2.2.2))))
def s_td (u : CU) (x : AI) : CU := (u.1, (u.2.1, (u.2.2.1, ((u.2.2.2.1.1, x), u.2.2.2.2))))
def s_tc (u : CU) (x : Int32) : CU := (u.1, (u.2.1, (u.2.2.1, (u.2.2.2.1, x))))
def m_thr (u : MU) : Int32 := u.1.1.1.1.1
def m_ns (u : MU) : Int32 := u.1.1.1.1.2
def m_fz (u : MU) : Int32 := u.1.1.1.2
def m_st (u : MU) : AI := u.1.1.2.1
def m_sta (u : MU) : AI := u.1.1.2.2
def m_sn (u : MU) : AL := u.1.2.1.1
def m_cn (u : MU) : Int32 := u.1.2.1.2
def m_us (u : MU) : AI := u.1.2.2.1
def m_k (u : MU) : AI := u.1.2.2.2
def m_v (u : MU) : AI := u.2.1.1.1
def m_b (u : MU) : AI := u.2.1.1.2
def m_fr (u : MU) : AI := u.2.1.2.1
def m_d (u : MU) : AI := u.2.1.2.2
def m_n (u : MU) : AI := u.2.2.1.1
def m_mp (u : MU) : AI := u.2.2.1.2
def m_en (u : MU) : AI := u.2.2.2.1
def m_ec (u : MU) : AI := u.2.2.2.2
def ms_thr (u : MU) (x : Int32) : MU := (((((x, u.1.1.1.1.2), u.1.1.1.2), u.1.1.2), u.1.2), u.2)
def ms_ns (u : MU) (x : Int32) : MU := (((((u.1.1.1.1.1, x), u.1.1.1.2), u.1.1.2), u.1.2), u.2)
def ms_fz (u : MU) (x : Int32) : MU := ((((u.1.1.1.1, x), u.1.1.2), u.1.2), u.2)
def ms_st (u : MU) (x : AI) : MU := (((u.1.1.1, (x, u.1.1.2.2)), u.1.2), u.2)
def ms_sta (u : MU) (x : AI) : MU := (((u.1.1.1, (u.1.1.2.1, x)), u.1.2), u.2)
def ms_sn (u : MU) (x : AL) : MU := ((u.1.1, ((x, u.1.2.1.2), u.1.2.2)), u.2)
def ms_cn (u : MU) (x : Int32) : MU := ((u.1.1, ((u.1.2.1.1, x), u.1.2.2)), u.2)
def ms_us (u : MU) (x : AI) : MU := ((u.1.1, (u.1.2.1, (x, u.1.2.2.2))), u.2)
def ms_k (u : MU) (x : AI) : MU := ((u.1.1, (u.1.2.1, (u.1.2.2.1, x))), u.2)
def ms_v (u : MU) (x : AI) : MU := (u.1, (((x, u.2.1.1.2), u.2.1.2), u.2.2))
def ms_b (u : MU) (x : AI) : MU := (u.1, (((u.2.1.1.1, x), u.2.1.2), u.2.2))
def ms_fr (u : MU) (x : AI) : MU := (u.1, ((u.2.1.1, (x, u.2.1.2.2)), u.2.2))
def ms_d (u : MU) (x : AI) : MU := (u.1, ((u.2.1.1, (u.2.1.2.1, x)), u.2.2))
def ms_n (u : MU) (x : AI) : MU := (u.1, (u.2.1, ((x, u.2.2.1.2), u.2.2.2)))
def ms_mp (u : MU) (x : AI) : MU := (u.1, (u.2.1, ((u.2.2.1.1, x), u.2.2.2)))
def ms_en (u : MU) (x : AI) : MU := (u.1, (u.2.1, (u.2.2.1, (x, u.2.2.2.2))))
def ms_ec (u : MU) (x : AI) : MU := (u.1, (u.2.1, (u.2.2.1, (u.2.2.2.1, x))))
def wC (K : Nat → ClassId) (g : Nat → Nat) (u : CU) : va_W := [(g 0, .inr (4, [.ref (g 1), .ref (g 2), .ref (g 3), .ref (g 4), .ref (g 5), .int (c_fz u)])), (g 1, .inr (3, [.ref (g 6), .ref (g 7), .int (c_cn u), .int (c_ns u), .long (c_ac u), .long (c_cm u)])), (g 2, .inr (1, [.ref (g 8), .ref (g 9), .ref (g 10), .ref (g 11), .ref (g 12), .ref (g 13), .ref (g 14), .ref (g 15), .ref (g 16)])), (g 3, .inr (0, [.ref (g 17), .ref (g 18)])), (g 4, .inr (2, [.ref (g 25), .ref (g 26), .ref (g 27), .ref (g 28), .int (c_tc u)])), (g 5, .inl (K 2, 4, .inl (c_mp u))), (g 6, .inl (K 0, 60, .inl (c_sp u))), (g 7, .inl (K 1, 60, .inr (.inl (c_sn u)))), (g 8, .inl (K 0, 32, .inl (c_k u))), (g 9, .inl (K 0, 32, .inl (c_v u))), (g 10, .inl (K 0, 32, .inl (c_b u))), (g 11, .inl (K 0, 32, .inl (c_bs u))), (g 12, .inl (K 2, 32, .inl (c_f u))), (g 13, .inl (K 0, 32, .inl (c_d u))), (g 14, .inl (K 0, 32, .inl (c_ds u))), (g 15, .inl (K 0, 32, .inl (c_n u))), (g 16, .inl (K 0, 32, .inl (c_r u))), (g 17, .inl (K 3, 6, .inr (.inr (.inr (.inr (fun i => if i < 6 then some (g (19 + i)) else none)))))), (g 18, .inl (K 0, 6, .inl (c_ct u))), (g 19, .inl (K 0, 32, .inl (c_pl u 0))), (g 20, .inl (K 0, 32, .inl (c_pl u 1))), (g 21, .inl (K 0, 32, .inl (c_pl u 2))), (g 22, .inl (K 0, 32, .inl (c_pl u 3))), (g 23, .inl (K 0, 32, .inl (c_pl u 4))), (g 24, .inl (K 0, 32, .inl (c_pl u 5))), (g 25, .inl (K 0, 512, .inl (c_tk u))), (g 26, .inl (K 0, 512, .inl (c_tv u))), (g 27, .inl (K 0, 512, .inl (c_tb u))), (g 28, .inl (K 0, 512, .inl (c_td u)))]
def wM (K : Nat → ClassId) (g : Nat → Nat) (u : MU) : va_W := [(g 0, .inr (5, [.int (m_thr u), .int (m_ns u), .int (m_fz u), .ref (g 1), .ref (g 2), .ref (g 3), .int (m_cn u), .ref (g 4), .ref (g 5), .ref (g 6), .ref (g 7), .ref (g 8), .ref (g 9), .ref (g 10), .ref (g 11), .ref (g 12), .ref (g 13)])), (g 1, .inl (K 0, 60, .inl (m_st u))), (g 2, .inl (K 0, 60, .inl (m_sta u))), (g 3, .inl (K 1, 60, .inr (.inl (m_sn u)))), (g 4, .inl (K 2, 32, .inl (m_us u))), (g 5, .inl (K 0, 32, .inl (m_k u))), (g 6, .inl (K 0, 32, .inl (m_v u))), (g 7, .inl (K 0, 32, .inl (m_b u))), (g 8, .inl (K 2, 32, .inl (m_fr u))), (g 9, .inl (K 0, 32, .inl (m_d u))), (g 10, .inl (K 0, 32, .inl (m_n u))), (g 11, .inl (K 2, 4, .inl (m_mp u))), (g 12, .inl (K 0, 384, .inl (m_en u))), (g 13, .inl (K 0, 6, .inl (m_ec u)))]
/-- n addresses, apart, of the cells of L -/
def gd (L : Nat → Prop) (g : Nat → Nat) (n : Nat) : Prop := (∀ i j, i < n → j < n → g i = g j → i = j) ∧ ∀ i, i < n → L (g i)
theorem wD {L : Nat → Prop} {g : Nat → Nat} {n sz : Nat} {w : va_W} (hg : gd L g n) (hm : w.map (·.1) = (List.range n).map g) : va_D (fr L sz) w := by
  have at' : ∀ (k : Nat) (q : Nat × va_E), w[k]? = some q → k < n ∧ q.1 = g k := by
    intro k q hk
    have h1 : (w.map (·.1))[k]? = some q.1 := by rw [List.getElem?_map, hk]; rfl
    rw [hm, List.getElem?_map] at h1
    by_cases hkn : k < n
    · rw [List.getElem?_range hkn] at h1
      exact ⟨hkn, (Option.some.inj h1).symm⟩
    · rw [List.getElem?_eq_none (by rw [List.length_range]; omega)] at h1
      cases h1
  refine ⟨fun i j x y hi hj hxy => ?_, fun k q hk => ?_⟩
  · obtain ⟨a1, a2⟩ := at' i x hi
    obtain ⟨b1, b2⟩ := at' j y hj
    exact hg.1 i j a1 b1 (by rw [← a2, ← b2]; exact hxy)
  · obtain ⟨a1, a2⟩ := at' k q hk
    rw [a2]; exact Or.inl (hg.2 k a1)
theorem wC_D {L : Nat → Prop} {g : Nat → Nat} {sz : Nat} {K : Nat → ClassId} {u : CU} (hg : gd L g 29) : va_D (fr L sz) (wC K g u) := wD hg rfl
theorem wM_D {L : Nat → Prop} {g : Nat → Nat} {sz : Nat} {K : Nat → ClassId} {u : MU} (hg : gd L g 14) : va_D (fr L sz) (wM K g u) := wD hg rfl
theorem vin {i : Int32} {j n : Nat} (hj : j < n) (hn : n < 2 ^ 31) (hi : i = nI j) : vp_in i n := by subst hi; exact vp_in_nI hj hn
theorem vcl {i : Int32} {j n : Nat} (hj : j < n) (hn : n < 2 ^ 31) (hi : i = nI j) : i.toNatClampNeg = j := by subst hi; exact nI_clamp (by omega)
section ROWS
variable {p : Program} {l : Launch} {e : Env} {R : Room} {s : State} {m : MethodId} {args : Array Value} {below : List Frame} {meth : Method} {c : Code} {H : Heap} {locs : List Loc} {cells slots : Nat} {Q : State → Prop}
variable {cc : ByteArray} {pc nL index : Nat} {ls : Array Slot} {D : va_G} {K : Nat → ClassId} {L A : Nat → Prop} {Ts : List Cond} {rest : List Value} {own : String} {g : Nat → Nat} {i : Int32} {j : Nat}
theorem gw4_transactions (S : CallFix p m c cc nL s args Ts own) (hin : ∀ w ∈ wsX40, w ∈ Ts) (hE : ev D K A s) {u : CU} (hP : va_P D vwCl (wC K g u) H) (hlink : (Cond.fieldLink own index "RowPages" "transactions" "LRowPages$Transactions;").before args s = true) (hdg : decode cc pc = .ok (.getfield index, 3)) (kk : W p l e R s m args below meth c H locs cells slots Q (F0 m (pc + 3) ls (.ref (g 1) :: rest))) : W p l e R s m args below meth c H locs cells slots Q (F0 m pc ls (.ref (g 0) :: rest)) :=
  va_get (D := D) (ci := 4) (v := .ref (g 1)) (C := RX4) (T := TX4) (N := 6) S.1 S.2.1 S.2.2.2.2 hin S.2.2.2.1 hE.1 hP 0 rfl rfl 0 (by decide) hlink (fun _ h9 => h9) rfl hdg kk
theorem gw4_slots (S : CallFix p m c cc nL s args Ts own) (hin : ∀ w ∈ wsX40, w ∈ Ts) (hE : ev D K A s) {u : CU} (hP : va_P D vwCl (wC K g u) H) (hlink : (Cond.fieldLink own index "RowPages" "slots" "LRowPages$Slots;").before args s = true) (hdg : decode cc pc = .ok (.getfield index, 3)) (kk : W p l e R s m args below meth c H locs cells slots Q (F0 m (pc + 3) ls (.ref (g 2) :: rest))) : W p l e R s m args below meth c H locs cells slots Q (F0 m pc ls (.ref (g 0) :: rest)) :=
  va_get (D := D) (ci := 4) (v := .ref (g 2)) (C := RX4) (T := TX4) (N := 6) S.1 S.2.1 S.2.2.2.2 hin S.2.2.2.1 hE.1 hP 0 rfl rfl 1 (by decide) hlink (fun _ h9 => h9) rfl hdg kk
theorem gw4_index (S : CallFix p m c cc nL s args Ts own) (hin : ∀ w ∈ wsX40, w ∈ Ts) (hE : ev D K A s) {u : CU} (hP : va_P D vwCl (wC K g u) H) (hlink : (Cond.fieldLink own index "RowPages" "index" "LRowPages$Index;").before args s = true) (hdg : decode cc pc = .ok (.getfield index, 3)) (kk : W p l e R s m args below meth c H locs cells slots Q (F0 m (pc + 3) ls (.ref (g 3) :: rest))) : W p l e R s m args below meth c H locs cells slots Q (F0 m pc ls (.ref (g 0) :: rest)) :=
  va_get (D := D) (ci := 4) (v := .ref (g 3)) (C := RX4) (T := TX4) (N := 6) S.1 S.2.1 S.2.2.2.2 hin S.2.2.2.1 hE.1 hP 0 rfl rfl 2 (by decide) hlink (fun _ h9 => h9) rfl hdg kk
theorem gw4_table (S : CallFix p m c cc nL s args Ts own) (hin : ∀ w ∈ wsX40, w ∈ Ts) (hE : ev D K A s) {u : CU} (hP : va_P D vwCl (wC K g u) H) (hlink : (Cond.fieldLink own index "RowPages" "table" "LRowPages$Table;").before args s = true) (hdg : decode cc pc = .ok (.getfield index, 3)) (kk : W p l e R s m args below meth c H locs cells slots Q (F0 m (pc + 3) ls (.ref (g 4) :: rest))) : W p l e R s m args below meth c H locs cells slots Q (F0 m pc ls (.ref (g 0) :: rest)) :=
  va_get (D := D) (ci := 4) (v := .ref (g 4)) (C := RX4) (T := TX4) (N := 6) S.1 S.2.1 S.2.2.2.2 hin S.2.2.2.1 hE.1 hP 0 rfl rfl 3 (by decide) hlink (fun _ h9 => h9) rfl hdg kk
theorem gw4_mapped (S : CallFix p m c cc nL s args Ts own) (hin : ∀ w ∈ wsX40, w ∈ Ts) (hE : ev D K A s) {u : CU} (hP : va_P D vwCl (wC K g u) H) (hlink : (Cond.fieldLink own index "RowPages" "mapped" "[Z").before args s = true) (hdg : decode cc pc = .ok (.getfield index, 3)) (kk : W p l e R s m args below meth c H locs cells slots Q (F0 m (pc + 3) ls (.ref (g 5) :: rest))) : W p l e R s m args below meth c H locs cells slots Q (F0 m pc ls (.ref (g 0) :: rest)) :=
  va_get (D := D) (ci := 4) (v := .ref (g 5)) (C := RX4) (T := TX4) (N := 6) S.1 S.2.1 S.2.2.2.2 hin S.2.2.2.1 hE.1 hP 0 rfl rfl 4 (by decide) hlink (fun _ h9 => h9) rfl hdg kk
theorem gw4_freezingAge (S : CallFix p m c cc nL s args Ts own) (hin : ∀ w ∈ wsX40, w ∈ Ts) (hE : ev D K A s) {u : CU} (hP : va_P D vwCl (wC K g u) H) {f : Int32} (hf : c_fz u = f) (hlink : (Cond.fieldLink own index "RowPages" "freezingAge" "I").before args s = true) (hdg : decode cc pc = .ok (.getfield index, 3)) (kk : W p l e R s m args below meth c H locs cells slots Q (F0 m (pc + 3) ls (.int f :: rest))) : W p l e R s m args below meth c H locs cells slots Q (F0 m pc ls (.ref (g 0) :: rest)) := by
  subst hf
  exact va_get (D := D) (ci := 4) (v := .int (c_fz u)) (C := RX4) (T := TX4) (N := 6) S.1 S.2.1 S.2.2.2.2 hin S.2.2.2.1 hE.1 hP 0 rfl rfl 5 (by decide) hlink (fun _ h9 => h9) rfl hdg kk
theorem pw4_freezingAge (S : CallFix p m c cc nL s args Ts own) (hin : ∀ w ∈ wsX40, w ∈ Ts) (hE : ev D K A s) {u : CU} (hP : va_P D vwCl (wC K g u) H) {sz : Nat} {x : Int32} (hg : gd L g 29) (hS : va_S (fr L sz) s.heap H locs) (hlink : (Cond.fieldLink own index "RowPages" "freezingAge" "I").before args s = true) (hdg : decode cc pc = .ok (.putfield index, 3)) (kk : ∀ (H1 : Heap) (locs1 : List Loc), va_P D vwCl (wC K g (s_fz u x)) H1 → va_S (fr L sz) s.heap H1 locs1 → W p l e R s m args below meth c H1 locs1 cells slots Q (F0 m (pc + 3) ls rest)) : W p l e R s m args below meth c H locs cells slots Q (F0 m pc ls (.int x :: .ref (g 0) :: rest)) :=
  va_put (D := D) (ci := 4) (v := .int x) (ty := .int) (C := RX4) (T := TX4) (N := 6) S.1 S.2.1 S.2.2.2.2 hin tyX4 tyX4_ok nmX4 S.2.2.2.1 hE.1 hP (wC_D hg) hS 0 rfl rfl 5 (by decide) hlink (fun _ h9 => h9) rfl (by decide +kernel) rfl rfl (Nat.le_of_ble_eq_true rfl) hdg (fun H1 locs1 hP1 hD1 hS1 => kk H1 locs1 hP1 hS1)
theorem gw3_stamps (S : CallFix p m c cc nL s args Ts own) (hin : ∀ w ∈ wsX30, w ∈ Ts) (hE : ev D K A s) {u : CU} (hP : va_P D vwCl (wC K g u) H) (hlink : (Cond.fieldLink own index "RowPages$Transactions" "stamps" "[I").before args s = true) (hdg : decode cc pc = .ok (.getfield index, 3)) (kk : W p l e R s m args below meth c H locs cells slots Q (F0 m (pc + 3) ls (.ref (g 6) :: rest))) : W p l e R s m args below meth c H locs cells slots Q (F0 m pc ls (.ref (g 1) :: rest)) :=
  va_get (D := D) (ci := 3) (v := .ref (g 6)) (C := RX3) (T := TX3) (N := 6) S.1 S.2.1 S.2.2.2.2 hin S.2.2.2.1 hE.1 hP 1 rfl rfl 0 (by decide) hlink (fun _ h9 => h9) rfl hdg kk
theorem gw3_snapshots (S : CallFix p m c cc nL s args Ts own) (hin : ∀ w ∈ wsX30, w ∈ Ts) (hE : ev D K A s) {u : CU} (hP : va_P D vwCl (wC K g u) H) (hlink : (Cond.fieldLink own index "RowPages$Transactions" "snapshots" "[J").before args s = true) (hdg : decode cc pc = .ok (.getfield index, 3)) (kk : W p l e R s m args below meth c H locs cells slots Q (F0 m (pc + 3) ls (.ref (g 7) :: rest))) : W p l e R s m args below meth c H locs cells slots Q (F0 m pc ls (.ref (g 1) :: rest)) :=
  va_get (D := D) (ci := 3) (v := .ref (g 7)) (C := RX3) (T := TX3) (N := 6) S.1 S.2.1 S.2.2.2.2 hin S.2.2.2.1 hE.1 hP 1 rfl rfl 1 (by decide) hlink (fun _ h9 => h9) rfl hdg kk
theorem gw3_count (S : CallFix p m c cc nL s args Ts own) (hin : ∀ w ∈ wsX30, w ∈ Ts) (hE : ev D K A s) {u : CU} (hP : va_P D vwCl (wC K g u) H) {f : Int32} (hf : c_cn u = f) (hlink : (Cond.fieldLink own index "RowPages$Transactions" "count" "I").before args s = true) (hdg : decode cc pc = .ok (.getfield index, 3)) (kk : W p l e R s m args below meth c H locs cells slots Q (F0 m (pc + 3) ls (.int f :: rest))) : W p l e R s m args below meth c H locs cells slots Q (F0 m pc ls (.ref (g 1) :: rest)) := by
  subst hf
  exact va_get (D := D) (ci := 3) (v := .int (c_cn u)) (C := RX3) (T := TX3) (N := 6) S.1 S.2.1 S.2.2.2.2 hin S.2.2.2.1 hE.1 hP 1 rfl rfl 2 (by decide) hlink (fun _ h9 => h9) rfl hdg kk
theorem pw3_count (S : CallFix p m c cc nL s args Ts own) (hin : ∀ w ∈ wsX30, w ∈ Ts) (hE : ev D K A s) {u : CU} (hP : va_P D vwCl (wC K g u) H) {sz : Nat} {x : Int32} (hg : gd L g 29) (hS : va_S (fr L sz) s.heap H locs) (hlink : (Cond.fieldLink own index "RowPages$Transactions" "count" "I").before args s = true) (hdg : decode cc pc = .ok (.putfield index, 3)) (kk : ∀ (H1 : Heap) (locs1 : List Loc), va_P D vwCl (wC K g (s_cn u x)) H1 → va_S (fr L sz) s.heap H1 locs1 → W p l e R s m args below meth c H1 locs1 cells slots Q (F0 m (pc + 3) ls rest)) : W p l e R s m args below meth c H locs cells slots Q (F0 m pc ls (.int x :: .ref (g 1) :: rest)) :=
  va_put (D := D) (ci := 3) (v := .int x) (ty := .int) (C := RX3) (T := TX3) (N := 6) S.1 S.2.1 S.2.2.2.2 hin tyX3 tyX3_ok nmX3 S.2.2.2.1 hE.1 hP (wC_D hg) hS 1 rfl rfl 2 (by decide) hlink (fun _ h9 => h9) rfl (by decide +kernel) rfl rfl (Nat.le_of_ble_eq_true rfl) hdg (fun H1 locs1 hP1 hD1 hS1 => kk H1 locs1 hP1 hS1)
theorem gw3_nextStamp (S : CallFix p m c cc nL s args Ts own) (hin : ∀ w ∈ wsX30, w ∈ Ts) (hE : ev D K A s) {u : CU} (hP : va_P D vwCl (wC K g u) H) {f : Int32} (hf : c_ns u = f) (hlink : (Cond.fieldLink own index "RowPages$Transactions" "nextStamp" "I").before args s = true) (hdg : decode cc pc = .ok (.getfield index, 3)) (kk : W p l e R s m args below meth c H locs cells slots Q (F0 m (pc + 3) ls (.int f :: rest))) : W p l e R s m args below meth c H locs cells slots Q (F0 m pc ls (.ref (g 1) :: rest)) := by
  subst hf
  exact va_get (D := D) (ci := 3) (v := .int (c_ns u)) (C := RX3) (T := TX3) (N := 6) S.1 S.2.1 S.2.2.2.2 hin S.2.2.2.1 hE.1 hP 1 rfl rfl 3 (by decide) hlink (fun _ h9 => h9) rfl hdg kk
theorem pw3_nextStamp (S : CallFix p m c cc nL s args Ts own) (hin : ∀ w ∈ wsX30, w ∈ Ts) (hE : ev D K A s) {u : CU} (hP : va_P D vwCl (wC K g u) H) {sz : Nat} {x : Int32} (hg : gd L g 29) (hS : va_S (fr L sz) s.heap H locs) (hlink : (Cond.fieldLink own index "RowPages$Transactions" "nextStamp" "I").before args s = true) (hdg : decode cc pc = .ok (.putfield index, 3)) (kk : ∀ (H1 : Heap) (locs1 : List Loc), va_P D vwCl (wC K g (s_ns u x)) H1 → va_S (fr L sz) s.heap H1 locs1 → W p l e R s m args below meth c H1 locs1 cells slots Q (F0 m (pc + 3) ls rest)) : W p l e R s m args below meth c H locs cells slots Q (F0 m pc ls (.int x :: .ref (g 1) :: rest)) :=
  va_put (D := D) (ci := 3) (v := .int x) (ty := .int) (C := RX3) (T := TX3) (N := 6) S.1 S.2.1 S.2.2.2.2 hin tyX3 tyX3_ok nmX3 S.2.2.2.1 hE.1 hP (wC_D hg) hS 1 rfl rfl 3 (by decide) hlink (fun _ h9 => h9) rfl (by decide +kernel) rfl rfl (Nat.le_of_ble_eq_true rfl) hdg (fun H1 locs1 hP1 hD1 hS1 => kk H1 locs1 hP1 hS1)
theorem gw3_active (S : CallFix p m c cc nL s args Ts own) (hin : ∀ w ∈ wsX30, w ∈ Ts) (hE : ev D K A s) {u : CU} (hP : va_P D vwCl (wC K g u) H) {f : Int64} (hf : c_ac u = f) (hlink : (Cond.fieldLink own index "RowPages$Transactions" "active" "J").before args s = true) (hdg : decode cc pc = .ok (.getfield index, 3)) (kk : W p l e R s m args below meth c H locs cells slots Q (F0 m (pc + 3) ls (.long f :: rest))) : W p l e R s m args below meth c H locs cells slots Q (F0 m pc ls (.ref (g 1) :: rest)) := by
  subst hf
  exact va_get (D := D) (ci := 3) (v := .long (c_ac u)) (C := RX3) (T := TX3) (N := 6) S.1 S.2.1 S.2.2.2.2 hin S.2.2.2.1 hE.1 hP 1 rfl rfl 4 (by decide) hlink (fun _ h9 => h9) rfl hdg kk
theorem pw3_active (S : CallFix p m c cc nL s args Ts own) (hin : ∀ w ∈ wsX30, w ∈ Ts) (hE : ev D K A s) {u : CU} (hP : va_P D vwCl (wC K g u) H) {sz : Nat} {x : Int64} (hg : gd L g 29) (hS : va_S (fr L sz) s.heap H locs) (hlink : (Cond.fieldLink own index "RowPages$Transactions" "active" "J").before args s = true) (hdg : decode cc pc = .ok (.putfield index, 3)) (kk : ∀ (H1 : Heap) (locs1 : List Loc), va_P D vwCl (wC K g (s_ac u x)) H1 → va_S (fr L sz) s.heap H1 locs1 → W p l e R s m args below meth c H1 locs1 cells slots Q (F0 m (pc + 3) ls rest)) : W p l e R s m args below meth c H locs cells slots Q (F0 m pc ls (.long x :: .ref (g 1) :: rest)) :=
  va_put (D := D) (ci := 3) (v := .long x) (ty := .long) (C := RX3) (T := TX3) (N := 6) S.1 S.2.1 S.2.2.2.2 hin tyX3 tyX3_ok nmX3 S.2.2.2.1 hE.1 hP (wC_D hg) hS 1 rfl rfl 4 (by decide) hlink (fun _ h9 => h9) rfl (by decide +kernel) rfl rfl (Nat.le_of_ble_eq_true rfl) hdg (fun H1 locs1 hP1 hD1 hS1 => kk H1 locs1 hP1 hS1)
theorem gw3_committed (S : CallFix p m c cc nL s args Ts own) (hin : ∀ w ∈ wsX30, w ∈ Ts) (hE : ev D K A s) {u : CU} (hP : va_P D vwCl (wC K g u) H) {f : Int64} (hf : c_cm u = f) (hlink : (Cond.fieldLink own index "RowPages$Transactions" "committed" "J").before args s = true) (hdg : decode cc pc = .ok (.getfield index, 3)) (kk : W p l e R s m args below meth c H locs cells slots Q (F0 m (pc + 3) ls (.long f :: rest))) : W p l e R s m args below meth c H locs cells slots Q (F0 m pc ls (.ref (g 1) :: rest)) := by
  subst hf
  exact va_get (D := D) (ci := 3) (v := .long (c_cm u)) (C := RX3) (T := TX3) (N := 6) S.1 S.2.1 S.2.2.2.2 hin S.2.2.2.1 hE.1 hP 1 rfl rfl 5 (by decide) hlink (fun _ h9 => h9) rfl hdg kk
theorem pw3_committed (S : CallFix p m c cc nL s args Ts own) (hin : ∀ w ∈ wsX30, w ∈ Ts) (hE : ev D K A s) {u : CU} (hP : va_P D vwCl (wC K g u) H) {sz : Nat} {x : Int64} (hg : gd L g 29) (hS : va_S (fr L sz) s.heap H locs) (hlink : (Cond.fieldLink own index "RowPages$Transactions" "committed" "J").before args s = true) (hdg : decode cc pc = .ok (.putfield index, 3)) (kk : ∀ (H1 : Heap) (locs1 : List Loc), va_P D vwCl (wC K g (s_cm u x)) H1 → va_S (fr L sz) s.heap H1 locs1 → W p l e R s m args below meth c H1 locs1 cells slots Q (F0 m (pc + 3) ls rest)) : W p l e R s m args below meth c H locs cells slots Q (F0 m pc ls (.long x :: .ref (g 1) :: rest)) :=
  va_put (D := D) (ci := 3) (v := .long x) (ty := .long) (C := RX3) (T := TX3) (N := 6) S.1 S.2.1 S.2.2.2.2 hin tyX3 tyX3_ok nmX3 S.2.2.2.1 hE.1 hP (wC_D hg) hS 1 rfl rfl 5 (by decide) hlink (fun _ h9 => h9) rfl (by decide +kernel) rfl rfl (Nat.le_of_ble_eq_true rfl) hdg (fun H1 locs1 hP1 hD1 hS1 => kk H1 locs1 hP1 hS1)
theorem gw1_keys (S : CallFix p m c cc nL s args Ts own) (hin : ∀ w ∈ wsX10, w ∈ Ts) (hE : ev D K A s) {u : CU} (hP : va_P D vwCl (wC K g u) H) (hlink : (Cond.fieldLink own index "RowPages$Slots" "keys" "[I").before args s = true) (hdg : decode cc pc = .ok (.getfield index, 3)) (kk : W p l e R s m args below meth c H locs cells slots Q (F0 m (pc + 3) ls (.ref (g 8) :: rest))) : W p l e R s m args below meth c H locs cells slots Q (F0 m pc ls (.ref (g 2) :: rest)) :=
  va_get (D := D) (ci := 1) (v := .ref (g 8)) (C := RX1) (T := TX1) (N := 9) S.1 S.2.1 S.2.2.2.2 hin S.2.2.2.1 hE.1 hP 2 rfl rfl 0 (by decide) hlink (fun _ h9 => h9) rfl hdg kk
theorem gw1_values (S : CallFix p m c cc nL s args Ts own) (hin : ∀ w ∈ wsX10, w ∈ Ts) (hE : ev D K A s) {u : CU} (hP : va_P D vwCl (wC K g u) H) (hlink : (Cond.fieldLink own index "RowPages$Slots" "values" "[I").before args s = true) (hdg : decode cc pc = .ok (.getfield index, 3)) (kk : W p l e R s m args below meth c H locs cells slots Q (F0 m (pc + 3) ls (.ref (g 9) :: rest))) : W p l e R s m args below meth c H locs cells slots Q (F0 m pc ls (.ref (g 2) :: rest)) :=
  va_get (D := D) (ci := 1) (v := .ref (g 9)) (C := RX1) (T := TX1) (N := 9) S.1 S.2.1 S.2.2.2.2 hin S.2.2.2.1 hE.1 hP 2 rfl rfl 1 (by decide) hlink (fun _ h9 => h9) rfl hdg kk
theorem gw1_births (S : CallFix p m c cc nL s args Ts own) (hin : ∀ w ∈ wsX10, w ∈ Ts) (hE : ev D K A s) {u : CU} (hP : va_P D vwCl (wC K g u) H) (hlink : (Cond.fieldLink own index "RowPages$Slots" "births" "[I").before args s = true) (hdg : decode cc pc = .ok (.getfield index, 3)) (kk : W p l e R s m args below meth c H locs cells slots Q (F0 m (pc + 3) ls (.ref (g 10) :: rest))) : W p l e R s m args below meth c H locs cells slots Q (F0 m pc ls (.ref (g 2) :: rest)) :=
  va_get (D := D) (ci := 1) (v := .ref (g 10)) (C := RX1) (T := TX1) (N := 9) S.1 S.2.1 S.2.2.2.2 hin S.2.2.2.1 hE.1 hP 2 rfl rfl 2 (by decide) hlink (fun _ h9 => h9) rfl hdg kk
theorem gw1_birthStamps (S : CallFix p m c cc nL s args Ts own) (hin : ∀ w ∈ wsX10, w ∈ Ts) (hE : ev D K A s) {u : CU} (hP : va_P D vwCl (wC K g u) H) (hlink : (Cond.fieldLink own index "RowPages$Slots" "birthStamps" "[I").before args s = true) (hdg : decode cc pc = .ok (.getfield index, 3)) (kk : W p l e R s m args below meth c H locs cells slots Q (F0 m (pc + 3) ls (.ref (g 11) :: rest))) : W p l e R s m args below meth c H locs cells slots Q (F0 m pc ls (.ref (g 2) :: rest)) :=
  va_get (D := D) (ci := 1) (v := .ref (g 11)) (C := RX1) (T := TX1) (N := 9) S.1 S.2.1 S.2.2.2.2 hin S.2.2.2.1 hE.1 hP 2 rfl rfl 3 (by decide) hlink (fun _ h9 => h9) rfl hdg kk
theorem gw1_frozen (S : CallFix p m c cc nL s args Ts own) (hin : ∀ w ∈ wsX10, w ∈ Ts) (hE : ev D K A s) {u : CU} (hP : va_P D vwCl (wC K g u) H) (hlink : (Cond.fieldLink own index "RowPages$Slots" "frozen" "[Z").before args s = true) (hdg : decode cc pc = .ok (.getfield index, 3)) (kk : W p l e R s m args below meth c H locs cells slots Q (F0 m (pc + 3) ls (.ref (g 12) :: rest))) : W p l e R s m args below meth c H locs cells slots Q (F0 m pc ls (.ref (g 2) :: rest)) :=
  va_get (D := D) (ci := 1) (v := .ref (g 12)) (C := RX1) (T := TX1) (N := 9) S.1 S.2.1 S.2.2.2.2 hin S.2.2.2.1 hE.1 hP 2 rfl rfl 4 (by decide) hlink (fun _ h9 => h9) rfl hdg kk
theorem gw1_deaths (S : CallFix p m c cc nL s args Ts own) (hin : ∀ w ∈ wsX10, w ∈ Ts) (hE : ev D K A s) {u : CU} (hP : va_P D vwCl (wC K g u) H) (hlink : (Cond.fieldLink own index "RowPages$Slots" "deaths" "[I").before args s = true) (hdg : decode cc pc = .ok (.getfield index, 3)) (kk : W p l e R s m args below meth c H locs cells slots Q (F0 m (pc + 3) ls (.ref (g 13) :: rest))) : W p l e R s m args below meth c H locs cells slots Q (F0 m pc ls (.ref (g 2) :: rest)) :=
  va_get (D := D) (ci := 1) (v := .ref (g 13)) (C := RX1) (T := TX1) (N := 9) S.1 S.2.1 S.2.2.2.2 hin S.2.2.2.1 hE.1 hP 2 rfl rfl 5 (by decide) hlink (fun _ h9 => h9) rfl hdg kk
theorem gw1_deathStamps (S : CallFix p m c cc nL s args Ts own) (hin : ∀ w ∈ wsX10, w ∈ Ts) (hE : ev D K A s) {u : CU} (hP : va_P D vwCl (wC K g u) H) (hlink : (Cond.fieldLink own index "RowPages$Slots" "deathStamps" "[I").before args s = true) (hdg : decode cc pc = .ok (.getfield index, 3)) (kk : W p l e R s m args below meth c H locs cells slots Q (F0 m (pc + 3) ls (.ref (g 14) :: rest))) : W p l e R s m args below meth c H locs cells slots Q (F0 m pc ls (.ref (g 2) :: rest)) :=
  va_get (D := D) (ci := 1) (v := .ref (g 14)) (C := RX1) (T := TX1) (N := 9) S.1 S.2.1 S.2.2.2.2 hin S.2.2.2.1 hE.1 hP 2 rfl rfl 6 (by decide) hlink (fun _ h9 => h9) rfl hdg kk
theorem gw1_nexts (S : CallFix p m c cc nL s args Ts own) (hin : ∀ w ∈ wsX10, w ∈ Ts) (hE : ev D K A s) {u : CU} (hP : va_P D vwCl (wC K g u) H) (hlink : (Cond.fieldLink own index "RowPages$Slots" "nexts" "[I").before args s = true) (hdg : decode cc pc = .ok (.getfield index, 3)) (kk : W p l e R s m args below meth c H locs cells slots Q (F0 m (pc + 3) ls (.ref (g 15) :: rest))) : W p l e R s m args below meth c H locs cells slots Q (F0 m pc ls (.ref (g 2) :: rest)) :=
  va_get (D := D) (ci := 1) (v := .ref (g 15)) (C := RX1) (T := TX1) (N := 9) S.1 S.2.1 S.2.2.2.2 hin S.2.2.2.1 hE.1 hP 2 rfl rfl 7 (by decide) hlink (fun _ h9 => h9) rfl hdg kk
theorem gw1_rows (S : CallFix p m c cc nL s args Ts own) (hin : ∀ w ∈ wsX10, w ∈ Ts) (hE : ev D K A s) {u : CU} (hP : va_P D vwCl (wC K g u) H) (hlink : (Cond.fieldLink own index "RowPages$Slots" "rows" "[I").before args s = true) (hdg : decode cc pc = .ok (.getfield index, 3)) (kk : W p l e R s m args below meth c H locs cells slots Q (F0 m (pc + 3) ls (.ref (g 16) :: rest))) : W p l e R s m args below meth c H locs cells slots Q (F0 m pc ls (.ref (g 2) :: rest)) :=
  va_get (D := D) (ci := 1) (v := .ref (g 16)) (C := RX1) (T := TX1) (N := 9) S.1 S.2.1 S.2.2.2.2 hin S.2.2.2.1 hE.1 hP 2 rfl rfl 8 (by decide) hlink (fun _ h9 => h9) rfl hdg kk
theorem gw0_places (S : CallFix p m c cc nL s args Ts own) (hin : ∀ w ∈ wsX00, w ∈ Ts) (hE : ev D K A s) {u : CU} (hP : va_P D vwCl (wC K g u) H) (hlink : (Cond.fieldLink own index "RowPages$Index" "places" "[[I").before args s = true) (hdg : decode cc pc = .ok (.getfield index, 3)) (kk : W p l e R s m args below meth c H locs cells slots Q (F0 m (pc + 3) ls (.ref (g 17) :: rest))) : W p l e R s m args below meth c H locs cells slots Q (F0 m pc ls (.ref (g 3) :: rest)) :=
  va_get (D := D) (ci := 0) (v := .ref (g 17)) (C := RX0) (T := TX0) (N := 2) S.1 S.2.1 S.2.2.2.2 hin S.2.2.2.1 hE.1 hP 3 rfl rfl 0 (by decide) hlink (fun _ h9 => h9) rfl hdg kk
theorem gw0_counts (S : CallFix p m c cc nL s args Ts own) (hin : ∀ w ∈ wsX00, w ∈ Ts) (hE : ev D K A s) {u : CU} (hP : va_P D vwCl (wC K g u) H) (hlink : (Cond.fieldLink own index "RowPages$Index" "counts" "[I").before args s = true) (hdg : decode cc pc = .ok (.getfield index, 3)) (kk : W p l e R s m args below meth c H locs cells slots Q (F0 m (pc + 3) ls (.ref (g 18) :: rest))) : W p l e R s m args below meth c H locs cells slots Q (F0 m pc ls (.ref (g 3) :: rest)) :=
  va_get (D := D) (ci := 0) (v := .ref (g 18)) (C := RX0) (T := TX0) (N := 2) S.1 S.2.1 S.2.2.2.2 hin S.2.2.2.1 hE.1 hP 3 rfl rfl 1 (by decide) hlink (fun _ h9 => h9) rfl hdg kk
theorem gw2_keys (S : CallFix p m c cc nL s args Ts own) (hin : ∀ w ∈ wsX20, w ∈ Ts) (hE : ev D K A s) {u : CU} (hP : va_P D vwCl (wC K g u) H) (hlink : (Cond.fieldLink own index "RowPages$Table" "keys" "[I").before args s = true) (hdg : decode cc pc = .ok (.getfield index, 3)) (kk : W p l e R s m args below meth c H locs cells slots Q (F0 m (pc + 3) ls (.ref (g 25) :: rest))) : W p l e R s m args below meth c H locs cells slots Q (F0 m pc ls (.ref (g 4) :: rest)) :=
  va_get (D := D) (ci := 2) (v := .ref (g 25)) (C := RX2) (T := TX2) (N := 5) S.1 S.2.1 S.2.2.2.2 hin S.2.2.2.1 hE.1 hP 4 rfl rfl 0 (by decide) hlink (fun _ h9 => h9) rfl hdg kk
theorem gw2_values (S : CallFix p m c cc nL s args Ts own) (hin : ∀ w ∈ wsX20, w ∈ Ts) (hE : ev D K A s) {u : CU} (hP : va_P D vwCl (wC K g u) H) (hlink : (Cond.fieldLink own index "RowPages$Table" "values" "[I").before args s = true) (hdg : decode cc pc = .ok (.getfield index, 3)) (kk : W p l e R s m args below meth c H locs cells slots Q (F0 m (pc + 3) ls (.ref (g 26) :: rest))) : W p l e R s m args below meth c H locs cells slots Q (F0 m pc ls (.ref (g 4) :: rest)) :=
  va_get (D := D) (ci := 2) (v := .ref (g 26)) (C := RX2) (T := TX2) (N := 5) S.1 S.2.1 S.2.2.2.2 hin S.2.2.2.1 hE.1 hP 4 rfl rfl 1 (by decide) hlink (fun _ h9 => h9) rfl hdg kk
theorem gw2_births (S : CallFix p m c cc nL s args Ts own) (hin : ∀ w ∈ wsX20, w ∈ Ts) (hE : ev D K A s) {u : CU} (hP : va_P D vwCl (wC K g u) H) (hlink : (Cond.fieldLink own index "RowPages$Table" "births" "[I").before args s = true) (hdg : decode cc pc = .ok (.getfield index, 3)) (kk : W p l e R s m args below meth c H locs cells slots Q (F0 m (pc + 3) ls (.ref (g 27) :: rest))) : W p l e R s m args below meth c H locs cells slots Q (F0 m pc ls (.ref (g 4) :: rest)) :=
  va_get (D := D) (ci := 2) (v := .ref (g 27)) (C := RX2) (T := TX2) (N := 5) S.1 S.2.1 S.2.2.2.2 hin S.2.2.2.1 hE.1 hP 4 rfl rfl 2 (by decide) hlink (fun _ h9 => h9) rfl hdg kk
theorem gw2_deaths (S : CallFix p m c cc nL s args Ts own) (hin : ∀ w ∈ wsX20, w ∈ Ts) (hE : ev D K A s) {u : CU} (hP : va_P D vwCl (wC K g u) H) (hlink : (Cond.fieldLink own index "RowPages$Table" "deaths" "[I").before args s = true) (hdg : decode cc pc = .ok (.getfield index, 3)) (kk : W p l e R s m args below meth c H locs cells slots Q (F0 m (pc + 3) ls (.ref (g 28) :: rest))) : W p l e R s m args below meth c H locs cells slots Q (F0 m pc ls (.ref (g 4) :: rest)) :=
  va_get (D := D) (ci := 2) (v := .ref (g 28)) (C := RX2) (T := TX2) (N := 5) S.1 S.2.1 S.2.2.2.2 hin S.2.2.2.1 hE.1 hP 4 rfl rfl 3 (by decide) hlink (fun _ h9 => h9) rfl hdg kk
theorem gw2_count (S : CallFix p m c cc nL s args Ts own) (hin : ∀ w ∈ wsX20, w ∈ Ts) (hE : ev D K A s) {u : CU} (hP : va_P D vwCl (wC K g u) H) {f : Int32} (hf : c_tc u = f) (hlink : (Cond.fieldLink own index "RowPages$Table" "count" "I").before args s = true) (hdg : decode cc pc = .ok (.getfield index, 3)) (kk : W p l e R s m args below meth c H locs cells slots Q (F0 m (pc + 3) ls (.int f :: rest))) : W p l e R s m args below meth c H locs cells slots Q (F0 m pc ls (.ref (g 4) :: rest)) := by
  subst hf
  exact va_get (D := D) (ci := 2) (v := .int (c_tc u)) (C := RX2) (T := TX2) (N := 5) S.1 S.2.1 S.2.2.2.2 hin S.2.2.2.1 hE.1 hP 4 rfl rfl 4 (by decide) hlink (fun _ h9 => h9) rfl hdg kk
theorem pw2_count (S : CallFix p m c cc nL s args Ts own) (hin : ∀ w ∈ wsX20, w ∈ Ts) (hE : ev D K A s) {u : CU} (hP : va_P D vwCl (wC K g u) H) {sz : Nat} {x : Int32} (hg : gd L g 29) (hS : va_S (fr L sz) s.heap H locs) (hlink : (Cond.fieldLink own index "RowPages$Table" "count" "I").before args s = true) (hdg : decode cc pc = .ok (.putfield index, 3)) (kk : ∀ (H1 : Heap) (locs1 : List Loc), va_P D vwCl (wC K g (s_tc u x)) H1 → va_S (fr L sz) s.heap H1 locs1 → W p l e R s m args below meth c H1 locs1 cells slots Q (F0 m (pc + 3) ls rest)) : W p l e R s m args below meth c H locs cells slots Q (F0 m pc ls (.int x :: .ref (g 4) :: rest)) :=
  va_put (D := D) (ci := 2) (v := .int x) (ty := .int) (C := RX2) (T := TX2) (N := 5) S.1 S.2.1 S.2.2.2.2 hin tyX2 tyX2_ok nmX2 S.2.2.2.1 hE.1 hP (wC_D hg) hS 4 rfl rfl 4 (by decide) hlink (fun _ h9 => h9) rfl (by decide +kernel) rfl rfl (Nat.le_of_ble_eq_true rfl) hdg (fun H1 locs1 hP1 hD1 hS1 => kk H1 locs1 hP1 hS1)
theorem lC_mp (S : CallFix p m c cc nL s args Ts own) (hE : ev D K A s) {u : CU} (hP : va_P D vwCl (wC K g u) H) {f : AI} (hf : c_mp u = f) (hj : j < 4) (hi : i = nI j) (hdg : decode cc pc = .ok (.baload, 1)) (kk : W p l e R s m args below meth c H locs cells slots Q (F0 m (pc + 1) ls (.int (f j) :: rest))) : W p l e R s m args below meth c H locs cells slots Q (F0 m pc ls (.int i :: .ref (g 5) :: rest)) := by
  subst hf
  refine va_zald S.1 S.2.1 hE.1 hP 5 2 rfl rfl (vin hj (by decide) hi) hdg ?_
  rw [vcl hj (by decide) hi]
  exact kk
theorem sC_mp (S : CallFix p m c cc nL s args Ts own) (hE : ev D K A s) {u : CU} (hP : va_P D vwCl (wC K g u) H) {sz : Nat} {x : Int32} (hb : vp_nar .boolean x = x) (hg : gd L g 29) (hS : va_S (fr L sz) s.heap H locs) (hj : j < 4) (hi : i = nI j) (hdg : decode cc pc = .ok (.bastore, 1)) (kk : ∀ (H1 : Heap) (locs1 : List Loc), va_P D vwCl (wC K g (s_mp u (upd (c_mp u) j x))) H1 → va_S (fr L sz) s.heap H1 locs1 → W p l e R s m args below meth c H1 locs1 cells slots Q (F0 m (pc + 1) ls rest)) : W p l e R s m args below meth c H locs cells slots Q (F0 m pc ls (.int x :: .int i :: .ref (g 5) :: rest)) := by
  refine va_zast S.1 S.2.1 hE.1 hP (wC_D hg) hS 5 2 rfl rfl (vin hj (by decide) hi) hdg (fun H1 locs1 hP1 hD1 hS1 => ?_)
  rw [vcl hj (by decide) hi, hb] at hP1
  exact kk H1 locs1 hP1 hS1
theorem lC_sp (S : CallFix p m c cc nL s args Ts own) (hE : ev D K A s) {u : CU} (hP : va_P D vwCl (wC K g u) H) {f : AI} (hf : c_sp u = f) (hj : j < 60) (hi : i = nI j) (hdg : decode cc pc = .ok (.iaload, 1)) (kk : W p l e R s m args below meth c H locs cells slots Q (F0 m (pc + 1) ls (.int (f j) :: rest))) : W p l e R s m args below meth c H locs cells slots Q (F0 m pc ls (.int i :: .ref (g 6) :: rest)) := by
  subst hf
  refine va_iald S.1 S.2.1 hE.1 hP 6 0 rfl rfl (vin hj (by decide) hi) hdg ?_
  rw [vcl hj (by decide) hi]
  exact kk
theorem sC_sp (S : CallFix p m c cc nL s args Ts own) (hE : ev D K A s) {u : CU} (hP : va_P D vwCl (wC K g u) H) {sz : Nat} {x : Int32} (hg : gd L g 29) (hS : va_S (fr L sz) s.heap H locs) (hj : j < 60) (hi : i = nI j) (hdg : decode cc pc = .ok (.iastore, 1)) (kk : ∀ (H1 : Heap) (locs1 : List Loc), va_P D vwCl (wC K g (s_sp u (upd (c_sp u) j x))) H1 → va_S (fr L sz) s.heap H1 locs1 → W p l e R s m args below meth c H1 locs1 cells slots Q (F0 m (pc + 1) ls rest)) : W p l e R s m args below meth c H locs cells slots Q (F0 m pc ls (.int x :: .int i :: .ref (g 6) :: rest)) := by
  refine va_iast S.1 S.2.1 hE.1 hP (wC_D hg) hS 6 0 rfl rfl (vin hj (by decide) hi) hdg (fun H1 locs1 hP1 hD1 hS1 => ?_)
  rw [vcl hj (by decide) hi] at hP1
  exact kk H1 locs1 hP1 hS1
theorem lC_sn (S : CallFix p m c cc nL s args Ts own) (hE : ev D K A s) {u : CU} (hP : va_P D vwCl (wC K g u) H) {f : AL} (hf : c_sn u = f) (hj : j < 60) (hi : i = nI j) (hdg : decode cc pc = .ok (.laload, 1)) (kk : W p l e R s m args below meth c H locs cells slots Q (F0 m (pc + 1) ls (.long (f j) :: rest))) : W p l e R s m args below meth c H locs cells slots Q (F0 m pc ls (.int i :: .ref (g 7) :: rest)) := by
  subst hf
  refine va_lald S.1 S.2.1 hE.1 hP 7 1 rfl rfl (vin hj (by decide) hi) hdg ?_
  rw [vcl hj (by decide) hi]
  exact kk
theorem sC_sn (S : CallFix p m c cc nL s args Ts own) (hE : ev D K A s) {u : CU} (hP : va_P D vwCl (wC K g u) H) {sz : Nat} {x : Int64} (hg : gd L g 29) (hS : va_S (fr L sz) s.heap H locs) (hj : j < 60) (hi : i = nI j) (hdg : decode cc pc = .ok (.lastore, 1)) (kk : ∀ (H1 : Heap) (locs1 : List Loc), va_P D vwCl (wC K g (s_sn u (vp_updL (c_sn u) j x))) H1 → va_S (fr L sz) s.heap H1 locs1 → W p l e R s m args below meth c H1 locs1 cells slots Q (F0 m (pc + 1) ls rest)) : W p l e R s m args below meth c H locs cells slots Q (F0 m pc ls (.long x :: .int i :: .ref (g 7) :: rest)) := by
  refine va_last S.1 S.2.1 hE.1 hP (wC_D hg) hS 7 1 rfl rfl (vin hj (by decide) hi) hdg (fun H1 locs1 hP1 hD1 hS1 => ?_)
  rw [vcl hj (by decide) hi] at hP1
  exact kk H1 locs1 hP1 hS1
theorem lC_k (S : CallFix p m c cc nL s args Ts own) (hE : ev D K A s) {u : CU} (hP : va_P D vwCl (wC K g u) H) {f : AI} (hf : c_k u = f) (hj : j < 32) (hi : i = nI j) (hdg : decode cc pc = .ok (.iaload, 1)) (kk : W p l e R s m args below meth c H locs cells slots Q (F0 m (pc + 1) ls (.int (f j) :: rest))) : W p l e R s m args below meth c H locs cells slots Q (F0 m pc ls (.int i :: .ref (g 8) :: rest)) := by
  subst hf
  refine va_iald S.1 S.2.1 hE.1 hP 8 0 rfl rfl (vin hj (by decide) hi) hdg ?_
  rw [vcl hj (by decide) hi]
  exact kk
theorem sC_k (S : CallFix p m c cc nL s args Ts own) (hE : ev D K A s) {u : CU} (hP : va_P D vwCl (wC K g u) H) {sz : Nat} {x : Int32} (hg : gd L g 29) (hS : va_S (fr L sz) s.heap H locs) (hj : j < 32) (hi : i = nI j) (hdg : decode cc pc = .ok (.iastore, 1)) (kk : ∀ (H1 : Heap) (locs1 : List Loc), va_P D vwCl (wC K g (s_k u (upd (c_k u) j x))) H1 → va_S (fr L sz) s.heap H1 locs1 → W p l e R s m args below meth c H1 locs1 cells slots Q (F0 m (pc + 1) ls rest)) : W p l e R s m args below meth c H locs cells slots Q (F0 m pc ls (.int x :: .int i :: .ref (g 8) :: rest)) := by
  refine va_iast S.1 S.2.1 hE.1 hP (wC_D hg) hS 8 0 rfl rfl (vin hj (by decide) hi) hdg (fun H1 locs1 hP1 hD1 hS1 => ?_)
  rw [vcl hj (by decide) hi] at hP1
  exact kk H1 locs1 hP1 hS1
theorem lC_v (S : CallFix p m c cc nL s args Ts own) (hE : ev D K A s) {u : CU} (hP : va_P D vwCl (wC K g u) H) {f : AI} (hf : c_v u = f) (hj : j < 32) (hi : i = nI j) (hdg : decode cc pc = .ok (.iaload, 1)) (kk : W p l e R s m args below meth c H locs cells slots Q (F0 m (pc + 1) ls (.int (f j) :: rest))) : W p l e R s m args below meth c H locs cells slots Q (F0 m pc ls (.int i :: .ref (g 9) :: rest)) := by
  subst hf
  refine va_iald S.1 S.2.1 hE.1 hP 9 0 rfl rfl (vin hj (by decide) hi) hdg ?_
  rw [vcl hj (by decide) hi]
  exact kk
theorem sC_v (S : CallFix p m c cc nL s args Ts own) (hE : ev D K A s) {u : CU} (hP : va_P D vwCl (wC K g u) H) {sz : Nat} {x : Int32} (hg : gd L g 29) (hS : va_S (fr L sz) s.heap H locs) (hj : j < 32) (hi : i = nI j) (hdg : decode cc pc = .ok (.iastore, 1)) (kk : ∀ (H1 : Heap) (locs1 : List Loc), va_P D vwCl (wC K g (s_v u (upd (c_v u) j x))) H1 → va_S (fr L sz) s.heap H1 locs1 → W p l e R s m args below meth c H1 locs1 cells slots Q (F0 m (pc + 1) ls rest)) : W p l e R s m args below meth c H locs cells slots Q (F0 m pc ls (.int x :: .int i :: .ref (g 9) :: rest)) := by
  refine va_iast S.1 S.2.1 hE.1 hP (wC_D hg) hS 9 0 rfl rfl (vin hj (by decide) hi) hdg (fun H1 locs1 hP1 hD1 hS1 => ?_)
  rw [vcl hj (by decide) hi] at hP1
  exact kk H1 locs1 hP1 hS1
theorem lC_b (S : CallFix p m c cc nL s args Ts own) (hE : ev D K A s) {u : CU} (hP : va_P D vwCl (wC K g u) H) {f : AI} (hf : c_b u = f) (hj : j < 32) (hi : i = nI j) (hdg : decode cc pc = .ok (.iaload, 1)) (kk : W p l e R s m args below meth c H locs cells slots Q (F0 m (pc + 1) ls (.int (f j) :: rest))) : W p l e R s m args below meth c H locs cells slots Q (F0 m pc ls (.int i :: .ref (g 10) :: rest)) := by
  subst hf
  refine va_iald S.1 S.2.1 hE.1 hP 10 0 rfl rfl (vin hj (by decide) hi) hdg ?_
  rw [vcl hj (by decide) hi]
  exact kk
theorem sC_b (S : CallFix p m c cc nL s args Ts own) (hE : ev D K A s) {u : CU} (hP : va_P D vwCl (wC K g u) H) {sz : Nat} {x : Int32} (hg : gd L g 29) (hS : va_S (fr L sz) s.heap H locs) (hj : j < 32) (hi : i = nI j) (hdg : decode cc pc = .ok (.iastore, 1)) (kk : ∀ (H1 : Heap) (locs1 : List Loc), va_P D vwCl (wC K g (s_b u (upd (c_b u) j x))) H1 → va_S (fr L sz) s.heap H1 locs1 → W p l e R s m args below meth c H1 locs1 cells slots Q (F0 m (pc + 1) ls rest)) : W p l e R s m args below meth c H locs cells slots Q (F0 m pc ls (.int x :: .int i :: .ref (g 10) :: rest)) := by
  refine va_iast S.1 S.2.1 hE.1 hP (wC_D hg) hS 10 0 rfl rfl (vin hj (by decide) hi) hdg (fun H1 locs1 hP1 hD1 hS1 => ?_)
  rw [vcl hj (by decide) hi] at hP1
  exact kk H1 locs1 hP1 hS1
theorem lC_bs (S : CallFix p m c cc nL s args Ts own) (hE : ev D K A s) {u : CU} (hP : va_P D vwCl (wC K g u) H) {f : AI} (hf : c_bs u = f) (hj : j < 32) (hi : i = nI j) (hdg : decode cc pc = .ok (.iaload, 1)) (kk : W p l e R s m args below meth c H locs cells slots Q (F0 m (pc + 1) ls (.int (f j) :: rest))) : W p l e R s m args below meth c H locs cells slots Q (F0 m pc ls (.int i :: .ref (g 11) :: rest)) := by
  subst hf
  refine va_iald S.1 S.2.1 hE.1 hP 11 0 rfl rfl (vin hj (by decide) hi) hdg ?_
  rw [vcl hj (by decide) hi]
  exact kk
theorem sC_bs (S : CallFix p m c cc nL s args Ts own) (hE : ev D K A s) {u : CU} (hP : va_P D vwCl (wC K g u) H) {sz : Nat} {x : Int32} (hg : gd L g 29) (hS : va_S (fr L sz) s.heap H locs) (hj : j < 32) (hi : i = nI j) (hdg : decode cc pc = .ok (.iastore, 1)) (kk : ∀ (H1 : Heap) (locs1 : List Loc), va_P D vwCl (wC K g (s_bs u (upd (c_bs u) j x))) H1 → va_S (fr L sz) s.heap H1 locs1 → W p l e R s m args below meth c H1 locs1 cells slots Q (F0 m (pc + 1) ls rest)) : W p l e R s m args below meth c H locs cells slots Q (F0 m pc ls (.int x :: .int i :: .ref (g 11) :: rest)) := by
  refine va_iast S.1 S.2.1 hE.1 hP (wC_D hg) hS 11 0 rfl rfl (vin hj (by decide) hi) hdg (fun H1 locs1 hP1 hD1 hS1 => ?_)
  rw [vcl hj (by decide) hi] at hP1
  exact kk H1 locs1 hP1 hS1
theorem lC_f (S : CallFix p m c cc nL s args Ts own) (hE : ev D K A s) {u : CU} (hP : va_P D vwCl (wC K g u) H) {f : AI} (hf : c_f u = f) (hj : j < 32) (hi : i = nI j) (hdg : decode cc pc = .ok (.baload, 1)) (kk : W p l e R s m args below meth c H locs cells slots Q (F0 m (pc + 1) ls (.int (f j) :: rest))) : W p l e R s m args below meth c H locs cells slots Q (F0 m pc ls (.int i :: .ref (g 12) :: rest)) := by
  subst hf
  refine va_zald S.1 S.2.1 hE.1 hP 12 2 rfl rfl (vin hj (by decide) hi) hdg ?_
  rw [vcl hj (by decide) hi]
  exact kk
theorem sC_f (S : CallFix p m c cc nL s args Ts own) (hE : ev D K A s) {u : CU} (hP : va_P D vwCl (wC K g u) H) {sz : Nat} {x : Int32} (hb : vp_nar .boolean x = x) (hg : gd L g 29) (hS : va_S (fr L sz) s.heap H locs) (hj : j < 32) (hi : i = nI j) (hdg : decode cc pc = .ok (.bastore, 1)) (kk : ∀ (H1 : Heap) (locs1 : List Loc), va_P D vwCl (wC K g (s_f u (upd (c_f u) j x))) H1 → va_S (fr L sz) s.heap H1 locs1 → W p l e R s m args below meth c H1 locs1 cells slots Q (F0 m (pc + 1) ls rest)) : W p l e R s m args below meth c H locs cells slots Q (F0 m pc ls (.int x :: .int i :: .ref (g 12) :: rest)) := by
  refine va_zast S.1 S.2.1 hE.1 hP (wC_D hg) hS 12 2 rfl rfl (vin hj (by decide) hi) hdg (fun H1 locs1 hP1 hD1 hS1 => ?_)
  rw [vcl hj (by decide) hi, hb] at hP1
  exact kk H1 locs1 hP1 hS1
theorem lC_d (S : CallFix p m c cc nL s args Ts own) (hE : ev D K A s) {u : CU} (hP : va_P D vwCl (wC K g u) H) {f : AI} (hf : c_d u = f) (hj : j < 32) (hi : i = nI j) (hdg : decode cc pc = .ok (.iaload, 1)) (kk : W p l e R s m args below meth c H locs cells slots Q (F0 m (pc + 1) ls (.int (f j) :: rest))) : W p l e R s m args below meth c H locs cells slots Q (F0 m pc ls (.int i :: .ref (g 13) :: rest)) := by
  subst hf
  refine va_iald S.1 S.2.1 hE.1 hP 13 0 rfl rfl (vin hj (by decide) hi) hdg ?_
  rw [vcl hj (by decide) hi]
  exact kk
theorem sC_d (S : CallFix p m c cc nL s args Ts own) (hE : ev D K A s) {u : CU} (hP : va_P D vwCl (wC K g u) H) {sz : Nat} {x : Int32} (hg : gd L g 29) (hS : va_S (fr L sz) s.heap H locs) (hj : j < 32) (hi : i = nI j) (hdg : decode cc pc = .ok (.iastore, 1)) (kk : ∀ (H1 : Heap) (locs1 : List Loc), va_P D vwCl (wC K g (s_d u (upd (c_d u) j x))) H1 → va_S (fr L sz) s.heap H1 locs1 → W p l e R s m args below meth c H1 locs1 cells slots Q (F0 m (pc + 1) ls rest)) : W p l e R s m args below meth c H locs cells slots Q (F0 m pc ls (.int x :: .int i :: .ref (g 13) :: rest)) := by
  refine va_iast S.1 S.2.1 hE.1 hP (wC_D hg) hS 13 0 rfl rfl (vin hj (by decide) hi) hdg (fun H1 locs1 hP1 hD1 hS1 => ?_)
  rw [vcl hj (by decide) hi] at hP1
  exact kk H1 locs1 hP1 hS1
theorem lC_ds (S : CallFix p m c cc nL s args Ts own) (hE : ev D K A s) {u : CU} (hP : va_P D vwCl (wC K g u) H) {f : AI} (hf : c_ds u = f) (hj : j < 32) (hi : i = nI j) (hdg : decode cc pc = .ok (.iaload, 1)) (kk : W p l e R s m args below meth c H locs cells slots Q (F0 m (pc + 1) ls (.int (f j) :: rest))) : W p l e R s m args below meth c H locs cells slots Q (F0 m pc ls (.int i :: .ref (g 14) :: rest)) := by
  subst hf
  refine va_iald S.1 S.2.1 hE.1 hP 14 0 rfl rfl (vin hj (by decide) hi) hdg ?_
  rw [vcl hj (by decide) hi]
  exact kk
theorem sC_ds (S : CallFix p m c cc nL s args Ts own) (hE : ev D K A s) {u : CU} (hP : va_P D vwCl (wC K g u) H) {sz : Nat} {x : Int32} (hg : gd L g 29) (hS : va_S (fr L sz) s.heap H locs) (hj : j < 32) (hi : i = nI j) (hdg : decode cc pc = .ok (.iastore, 1)) (kk : ∀ (H1 : Heap) (locs1 : List Loc), va_P D vwCl (wC K g (s_ds u (upd (c_ds u) j x))) H1 → va_S (fr L sz) s.heap H1 locs1 → W p l e R s m args below meth c H1 locs1 cells slots Q (F0 m (pc + 1) ls rest)) : W p l e R s m args below meth c H locs cells slots Q (F0 m pc ls (.int x :: .int i :: .ref (g 14) :: rest)) := by
  refine va_iast S.1 S.2.1 hE.1 hP (wC_D hg) hS 14 0 rfl rfl (vin hj (by decide) hi) hdg (fun H1 locs1 hP1 hD1 hS1 => ?_)
  rw [vcl hj (by decide) hi] at hP1
  exact kk H1 locs1 hP1 hS1
theorem lC_n (S : CallFix p m c cc nL s args Ts own) (hE : ev D K A s) {u : CU} (hP : va_P D vwCl (wC K g u) H) {f : AI} (hf : c_n u = f) (hj : j < 32) (hi : i = nI j) (hdg : decode cc pc = .ok (.iaload, 1)) (kk : W p l e R s m args below meth c H locs cells slots Q (F0 m (pc + 1) ls (.int (f j) :: rest))) : W p l e R s m args below meth c H locs cells slots Q (F0 m pc ls (.int i :: .ref (g 15) :: rest)) := by
  subst hf
  refine va_iald S.1 S.2.1 hE.1 hP 15 0 rfl rfl (vin hj (by decide) hi) hdg ?_
  rw [vcl hj (by decide) hi]
  exact kk
theorem sC_n (S : CallFix p m c cc nL s args Ts own) (hE : ev D K A s) {u : CU} (hP : va_P D vwCl (wC K g u) H) {sz : Nat} {x : Int32} (hg : gd L g 29) (hS : va_S (fr L sz) s.heap H locs) (hj : j < 32) (hi : i = nI j) (hdg : decode cc pc = .ok (.iastore, 1)) (kk : ∀ (H1 : Heap) (locs1 : List Loc), va_P D vwCl (wC K g (s_n u (upd (c_n u) j x))) H1 → va_S (fr L sz) s.heap H1 locs1 → W p l e R s m args below meth c H1 locs1 cells slots Q (F0 m (pc + 1) ls rest)) : W p l e R s m args below meth c H locs cells slots Q (F0 m pc ls (.int x :: .int i :: .ref (g 15) :: rest)) := by
  refine va_iast S.1 S.2.1 hE.1 hP (wC_D hg) hS 15 0 rfl rfl (vin hj (by decide) hi) hdg (fun H1 locs1 hP1 hD1 hS1 => ?_)
  rw [vcl hj (by decide) hi] at hP1
  exact kk H1 locs1 hP1 hS1
theorem lC_r (S : CallFix p m c cc nL s args Ts own) (hE : ev D K A s) {u : CU} (hP : va_P D vwCl (wC K g u) H) {f : AI} (hf : c_r u = f) (hj : j < 32) (hi : i = nI j) (hdg : decode cc pc = .ok (.iaload, 1)) (kk : W p l e R s m args below meth c H locs cells slots Q (F0 m (pc + 1) ls (.int (f j) :: rest))) : W p l e R s m args below meth c H locs cells slots Q (F0 m pc ls (.int i :: .ref (g 16) :: rest)) := by
  subst hf
  refine va_iald S.1 S.2.1 hE.1 hP 16 0 rfl rfl (vin hj (by decide) hi) hdg ?_
  rw [vcl hj (by decide) hi]
  exact kk
theorem sC_r (S : CallFix p m c cc nL s args Ts own) (hE : ev D K A s) {u : CU} (hP : va_P D vwCl (wC K g u) H) {sz : Nat} {x : Int32} (hg : gd L g 29) (hS : va_S (fr L sz) s.heap H locs) (hj : j < 32) (hi : i = nI j) (hdg : decode cc pc = .ok (.iastore, 1)) (kk : ∀ (H1 : Heap) (locs1 : List Loc), va_P D vwCl (wC K g (s_r u (upd (c_r u) j x))) H1 → va_S (fr L sz) s.heap H1 locs1 → W p l e R s m args below meth c H1 locs1 cells slots Q (F0 m (pc + 1) ls rest)) : W p l e R s m args below meth c H locs cells slots Q (F0 m pc ls (.int x :: .int i :: .ref (g 16) :: rest)) := by
  refine va_iast S.1 S.2.1 hE.1 hP (wC_D hg) hS 16 0 rfl rfl (vin hj (by decide) hi) hdg (fun H1 locs1 hP1 hD1 hS1 => ?_)
  rw [vcl hj (by decide) hi] at hP1
  exact kk H1 locs1 hP1 hS1
theorem lC_ct (S : CallFix p m c cc nL s args Ts own) (hE : ev D K A s) {u : CU} (hP : va_P D vwCl (wC K g u) H) {f : AI} (hf : c_ct u = f) (hj : j < 6) (hi : i = nI j) (hdg : decode cc pc = .ok (.iaload, 1)) (kk : W p l e R s m args below meth c H locs cells slots Q (F0 m (pc + 1) ls (.int (f j) :: rest))) : W p l e R s m args below meth c H locs cells slots Q (F0 m pc ls (.int i :: .ref (g 18) :: rest)) := by
  subst hf
  refine va_iald S.1 S.2.1 hE.1 hP 18 0 rfl rfl (vin hj (by decide) hi) hdg ?_
  rw [vcl hj (by decide) hi]
  exact kk
theorem sC_ct (S : CallFix p m c cc nL s args Ts own) (hE : ev D K A s) {u : CU} (hP : va_P D vwCl (wC K g u) H) {sz : Nat} {x : Int32} (hg : gd L g 29) (hS : va_S (fr L sz) s.heap H locs) (hj : j < 6) (hi : i = nI j) (hdg : decode cc pc = .ok (.iastore, 1)) (kk : ∀ (H1 : Heap) (locs1 : List Loc), va_P D vwCl (wC K g (s_ct u (upd (c_ct u) j x))) H1 → va_S (fr L sz) s.heap H1 locs1 → W p l e R s m args below meth c H1 locs1 cells slots Q (F0 m (pc + 1) ls rest)) : W p l e R s m args below meth c H locs cells slots Q (F0 m pc ls (.int x :: .int i :: .ref (g 18) :: rest)) := by
  refine va_iast S.1 S.2.1 hE.1 hP (wC_D hg) hS 18 0 rfl rfl (vin hj (by decide) hi) hdg (fun H1 locs1 hP1 hD1 hS1 => ?_)
  rw [vcl hj (by decide) hi] at hP1
  exact kk H1 locs1 hP1 hS1
theorem lC_tk (S : CallFix p m c cc nL s args Ts own) (hE : ev D K A s) {u : CU} (hP : va_P D vwCl (wC K g u) H) {f : AI} (hf : c_tk u = f) (hj : j < 512) (hi : i = nI j) (hdg : decode cc pc = .ok (.iaload, 1)) (kk : W p l e R s m args below meth c H locs cells slots Q (F0 m (pc + 1) ls (.int (f j) :: rest))) : W p l e R s m args below meth c H locs cells slots Q (F0 m pc ls (.int i :: .ref (g 25) :: rest)) := by
  subst hf
  refine va_iald S.1 S.2.1 hE.1 hP 25 0 rfl rfl (vin hj (by decide) hi) hdg ?_
  rw [vcl hj (by decide) hi]
  exact kk
theorem sC_tk (S : CallFix p m c cc nL s args Ts own) (hE : ev D K A s) {u : CU} (hP : va_P D vwCl (wC K g u) H) {sz : Nat} {x : Int32} (hg : gd L g 29) (hS : va_S (fr L sz) s.heap H locs) (hj : j < 512) (hi : i = nI j) (hdg : decode cc pc = .ok (.iastore, 1)) (kk : ∀ (H1 : Heap) (locs1 : List Loc), va_P D vwCl (wC K g (s_tk u (upd (c_tk u) j x))) H1 → va_S (fr L sz) s.heap H1 locs1 → W p l e R s m args below meth c H1 locs1 cells slots Q (F0 m (pc + 1) ls rest)) : W p l e R s m args below meth c H locs cells slots Q (F0 m pc ls (.int x :: .int i :: .ref (g 25) :: rest)) := by
  refine va_iast S.1 S.2.1 hE.1 hP (wC_D hg) hS 25 0 rfl rfl (vin hj (by decide) hi) hdg (fun H1 locs1 hP1 hD1 hS1 => ?_)
  rw [vcl hj (by decide) hi] at hP1
  exact kk H1 locs1 hP1 hS1
theorem lC_tv (S : CallFix p m c cc nL s args Ts own) (hE : ev D K A s) {u : CU} (hP : va_P D vwCl (wC K g u) H) {f : AI} (hf : c_tv u = f) (hj : j < 512) (hi : i = nI j) (hdg : decode cc pc = .ok (.iaload, 1)) (kk : W p l e R s m args below meth c H locs cells slots Q (F0 m (pc + 1) ls (.int (f j) :: rest))) : W p l e R s m args below meth c H locs cells slots Q (F0 m pc ls (.int i :: .ref (g 26) :: rest)) := by
  subst hf
  refine va_iald S.1 S.2.1 hE.1 hP 26 0 rfl rfl (vin hj (by decide) hi) hdg ?_
  rw [vcl hj (by decide) hi]
  exact kk
theorem sC_tv (S : CallFix p m c cc nL s args Ts own) (hE : ev D K A s) {u : CU} (hP : va_P D vwCl (wC K g u) H) {sz : Nat} {x : Int32} (hg : gd L g 29) (hS : va_S (fr L sz) s.heap H locs) (hj : j < 512) (hi : i = nI j) (hdg : decode cc pc = .ok (.iastore, 1)) (kk : ∀ (H1 : Heap) (locs1 : List Loc), va_P D vwCl (wC K g (s_tv u (upd (c_tv u) j x))) H1 → va_S (fr L sz) s.heap H1 locs1 → W p l e R s m args below meth c H1 locs1 cells slots Q (F0 m (pc + 1) ls rest)) : W p l e R s m args below meth c H locs cells slots Q (F0 m pc ls (.int x :: .int i :: .ref (g 26) :: rest)) := by
  refine va_iast S.1 S.2.1 hE.1 hP (wC_D hg) hS 26 0 rfl rfl (vin hj (by decide) hi) hdg (fun H1 locs1 hP1 hD1 hS1 => ?_)
  rw [vcl hj (by decide) hi] at hP1
  exact kk H1 locs1 hP1 hS1
theorem lC_tb (S : CallFix p m c cc nL s args Ts own) (hE : ev D K A s) {u : CU} (hP : va_P D vwCl (wC K g u) H) {f : AI} (hf : c_tb u = f) (hj : j < 512) (hi : i = nI j) (hdg : decode cc pc = .ok (.iaload, 1)) (kk : W p l e R s m args below meth c H locs cells slots Q (F0 m (pc + 1) ls (.int (f j) :: rest))) : W p l e R s m args below meth c H locs cells slots Q (F0 m pc ls (.int i :: .ref (g 27) :: rest)) := by
  subst hf
  refine va_iald S.1 S.2.1 hE.1 hP 27 0 rfl rfl (vin hj (by decide) hi) hdg ?_
  rw [vcl hj (by decide) hi]
  exact kk
theorem sC_tb (S : CallFix p m c cc nL s args Ts own) (hE : ev D K A s) {u : CU} (hP : va_P D vwCl (wC K g u) H) {sz : Nat} {x : Int32} (hg : gd L g 29) (hS : va_S (fr L sz) s.heap H locs) (hj : j < 512) (hi : i = nI j) (hdg : decode cc pc = .ok (.iastore, 1)) (kk : ∀ (H1 : Heap) (locs1 : List Loc), va_P D vwCl (wC K g (s_tb u (upd (c_tb u) j x))) H1 → va_S (fr L sz) s.heap H1 locs1 → W p l e R s m args below meth c H1 locs1 cells slots Q (F0 m (pc + 1) ls rest)) : W p l e R s m args below meth c H locs cells slots Q (F0 m pc ls (.int x :: .int i :: .ref (g 27) :: rest)) := by
  refine va_iast S.1 S.2.1 hE.1 hP (wC_D hg) hS 27 0 rfl rfl (vin hj (by decide) hi) hdg (fun H1 locs1 hP1 hD1 hS1 => ?_)
  rw [vcl hj (by decide) hi] at hP1
  exact kk H1 locs1 hP1 hS1
theorem lC_td (S : CallFix p m c cc nL s args Ts own) (hE : ev D K A s) {u : CU} (hP : va_P D vwCl (wC K g u) H) {f : AI} (hf : c_td u = f) (hj : j < 512) (hi : i = nI j) (hdg : decode cc pc = .ok (.iaload, 1)) (kk : W p l e R s m args below meth c H locs cells slots Q (F0 m (pc + 1) ls (.int (f j) :: rest))) : W p l e R s m args below meth c H locs cells slots Q (F0 m pc ls (.int i :: .ref (g 28) :: rest)) := by
  subst hf
  refine va_iald S.1 S.2.1 hE.1 hP 28 0 rfl rfl (vin hj (by decide) hi) hdg ?_
  rw [vcl hj (by decide) hi]
  exact kk
theorem sC_td (S : CallFix p m c cc nL s args Ts own) (hE : ev D K A s) {u : CU} (hP : va_P D vwCl (wC K g u) H) {sz : Nat} {x : Int32} (hg : gd L g 29) (hS : va_S (fr L sz) s.heap H locs) (hj : j < 512) (hi : i = nI j) (hdg : decode cc pc = .ok (.iastore, 1)) (kk : ∀ (H1 : Heap) (locs1 : List Loc), va_P D vwCl (wC K g (s_td u (upd (c_td u) j x))) H1 → va_S (fr L sz) s.heap H1 locs1 → W p l e R s m args below meth c H1 locs1 cells slots Q (F0 m (pc + 1) ls rest)) : W p l e R s m args below meth c H locs cells slots Q (F0 m pc ls (.int x :: .int i :: .ref (g 28) :: rest)) := by
  refine va_iast S.1 S.2.1 hE.1 hP (wC_D hg) hS 28 0 rfl rfl (vin hj (by decide) hi) hdg (fun H1 locs1 hP1 hD1 hS1 => ?_)
  rw [vcl hj (by decide) hi] at hP1
  exact kk H1 locs1 hP1 hS1
theorem lC_places (S : CallFix p m c cc nL s args Ts own) (hE : ev D K A s) {u : CU} (hP : va_P D vwCl (wC K g u) H) (hj : j < 6) (hi : i = nI j) (hdg : decode cc pc = .ok (.aaload, 1)) (kk : W p l e R s m args below meth c H locs cells slots Q (F0 m (pc + 1) ls (.ref (g (19 + j)) :: rest))) : W p l e R s m args below meth c H locs cells slots Q (F0 m pc ls (.int i :: .ref (g 17) :: rest)) := by
  have hin : vp_in i 6 := vin hj (by decide) hi
  have hcl := vcl hj (by decide) hi
  have hlt : i.toNatClampNeg < 6 := by rw [hcl]; exact hj
  have hq : (wC K g u)[17]? = some (g 17, .inl (K 3, 6, .inr (.inr (.inr (.inr (fun i => if i < 6 then some (g (19 + i)) else none)))))) := rfl
  refine W.aald (v := va_rf (if i.toNatClampNeg < 6 then some (g (19 + i.toNatClampNeg)) else none)) (ty := .array .int) S.1 S.2.1 (hP 17 _ hq) ((hE.1.2 3 _ rfl).1 6 (fun j => va_rf (if j < 6 then some (g (19 + j)) else none))) rfl (fun q => by cases q) (by show ¬ (i < 0 ∨ (arrV _ _ _).slots.size ≤ _); rw [arrV_size]; exact hin) (by show (arrV _ _ _).slots[_]? = _; rw [arrV_read _ _ hlt]) rfl rfl hdg ?_
  rw [if_pos hlt, hcl]
  exact kk
theorem wC_pl {u : CU} {k : Nat} (hk : k < 6) : (wC K g u)[19 + k]? = some (g (19 + k), .inl (K 0, 32, .inl (c_pl u k))) := by
  rcases (show k = 0 ∨ k = 1 ∨ k = 2 ∨ k = 3 ∨ k = 4 ∨ k = 5 by omega) with h | h | h | h | h | h <;> subst h <;> rfl
theorem wC_spl {u : CU} {k : Nat} (hk : k < 6) (f : AI) : (wC K g u).set (19 + k) (g (19 + k), .inl (K 0, 32, .inl f)) = wC K g (s_pl u (va_up (c_pl u) k f)) := by
  rcases (show k = 0 ∨ k = 1 ∨ k = 2 ∨ k = 3 ∨ k = 4 ∨ k = 5 by omega) with h | h | h | h | h | h <;> subst h <;> rfl
theorem lC_pl (S : CallFix p m c cc nL s args Ts own) (hE : ev D K A s) {u : CU} (hP : va_P D vwCl (wC K g u) H) {k : Nat} {f : AI} (hk : k < 6) (hf : c_pl u k = f) (hj : j < 32) (hi : i = nI j) (hdg : decode cc pc = .ok (.iaload, 1)) (kk : W p l e R s m args below meth c H locs cells slots Q (F0 m (pc + 1) ls (.int (f j) :: rest))) : W p l e R s m args below meth c H locs cells slots Q (F0 m pc ls (.int i :: .ref (g (19 + k)) :: rest)) := by
  subst hf
  refine va_iald S.1 S.2.1 hE.1 hP (19 + k) 0 (wC_pl hk) rfl (vin hj (by decide) hi) hdg ?_
  rw [vcl hj (by decide) hi]
  exact kk
theorem sC_pl (S : CallFix p m c cc nL s args Ts own) (hE : ev D K A s) {u : CU} (hP : va_P D vwCl (wC K g u) H) {sz : Nat} {x : Int32} {k : Nat} (hg : gd L g 29) (hS : va_S (fr L sz) s.heap H locs) (hk : k < 6) (hj : j < 32) (hi : i = nI j) (hdg : decode cc pc = .ok (.iastore, 1)) (kk : ∀ (H1 : Heap) (locs1 : List Loc), va_P D vwCl (wC K g (s_pl u (va_up (c_pl u) k (upd (c_pl u k) j x)))) H1 → va_S (fr L sz) s.heap H1 locs1 → W p l e R s m args below meth c H1 locs1 cells slots Q (F0 m (pc + 1) ls rest)) : W p l e R s m args below meth c H locs cells slots Q (F0 m pc ls (.int x :: .int i :: .ref (g (19 + k)) :: rest)) := by
  refine va_iast S.1 S.2.1 hE.1 hP (wC_D hg) hS (19 + k) 0 (wC_pl hk) rfl (vin hj (by decide) hi) hdg (fun H1 locs1 hP1 hD1 hS1 => ?_)
  rw [vcl hj (by decide) hi, wC_spl hk] at hP1
  exact kk H1 locs1 hP1 hS1
theorem sC_plU (S : CallFix p m c cc nL s args Ts own) (hE : ev D K A s) {u : CU} {sz : Nat} {x : Int32} {k : Nat} {f : AI} (hP : va_P D vwCl (wC K g (s_pl u (va_up (c_pl u) k f))) H) (hg : gd L g 29) (hS : va_S (fr L sz) s.heap H locs) (hk : k < 6) (hj : j < 32) (hi : i = nI j) (hdg : decode cc pc = .ok (.iastore, 1)) (kk : ∀ (H1 : Heap) (locs1 : List Loc), va_P D vwCl (wC K g (s_pl u (va_up (c_pl u) k (upd f j x)))) H1 → va_S (fr L sz) s.heap H1 locs1 → W p l e R s m args below meth c H1 locs1 cells slots Q (F0 m (pc + 1) ls rest)) : W p l e R s m args below meth c H locs cells slots Q (F0 m pc ls (.int x :: .int i :: .ref (g (19 + k)) :: rest)) := by
  refine sC_pl S hE hP hg hS hk hj hi hdg (fun H1 locs1 hP1 hS1 => ?_)
  have e1 : c_pl (s_pl u (va_up (c_pl u) k f)) k = f := va_up_self _ _ _
  have e2 : va_up (c_pl (s_pl u (va_up (c_pl u) k f))) k (upd f j x) = va_up (c_pl u) k (upd f j x) := bx_uu _ _ _ _
  rw [e1, e2] at hP1
  exact kk H1 locs1 hP1 hS1
end ROWS

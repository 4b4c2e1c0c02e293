/-! ===== exceptions on both sides ===== -/
/-- one, two or three conditions in a row -/
noncomputable def e2 (A B : Prop) (X Y : String) : Option String := thn (ex A X) (ex B Y)
noncomputable def e3 (A B C : Prop) (X Y Z : String) : Option String := thn (ex A X) (thn (ex B Y) (ex C Z))
theorem e2_t {A B : Prop} {X Y : String} (a : A) (b : B) : e2 A B X Y = none := by unfold e2; rw [ex_t a, ex_t b]; rfl
theorem e2_1 {A B : Prop} {X Y : String} (a : ¬ A) : e2 A B X Y = some X := by unfold e2; rw [ex_f a]; rfl
theorem e2_2 {A B : Prop} {X Y : String} (a : A) (b : ¬ B) : e2 A B X Y = some Y := by unfold e2; rw [ex_t a, ex_f b]; rfl
theorem e3_t {A B C : Prop} {X Y Z : String} (a : A) (b : B) (c : C) : e3 A B C X Y Z = none := by unfold e3; rw [ex_t a, ex_t b, ex_t c]; rfl
theorem e3_1 {A B C : Prop} {X Y Z : String} (a : ¬ A) : e3 A B C X Y Z = some X := by unfold e3; rw [ex_f a]; rfl
theorem e3_2 {A B C : Prop} {X Y Z : String} (a : A) (b : ¬ B) : e3 A B C X Y Z = some Y := by unfold e3; rw [ex_t a, ex_f b]; rfl
theorem e3_3 {A B C : Prop} {X Y Z : String} (a : A) (b : B) (c : ¬ C) : e3 A B C X Y Z = some Z := by unfold e3; rw [ex_t a, ex_t b, ex_f c]; rfl
theorem ex_and {A B : Prop} {X : String} : thn (ex A X) (ex B X) = ex (A ∧ B) X := by
  by_cases a : A
  · rw [ex_t a]
    by_cases b : B
    · rw [ex_t b, ex_t ⟨a, b⟩]; rfl
    · rw [ex_f b, ex_f (fun h => b h.2)]; rfl
  · rw [ex_f a, ex_f (q := A ∧ B) (fun h => a h.1)]; rfl
theorem ex_and3 {A B : Prop} {X : String} {e : Option String} : thn (ex A X) (thn (ex B X) e) = thn (ex (A ∧ B) X) e := by
  by_cases a : A
  · rw [ex_t a]
    by_cases b : B
    · rw [ex_t b, ex_t ⟨a, b⟩]; rfl
    · rw [ex_f b, ex_f (fun h => b h.2)]; rfl
  · rw [ex_f a, ex_f (q := A ∧ B) (fun h => a h.1)]; rfl
theorem mem1 {A : Prop} {X : String} : ∀ Y, ex A X = some Y → Y ∈ [X] := by
  intro Y h
  by_cases a : A
  · rw [ex_t a] at h; cases h
  · rw [ex_f a] at h; cases h; exact List.mem_cons_self
theorem mem2 {A B : Prop} {X1 X2 : String} : ∀ Y, e2 A B X1 X2 = some Y → Y ∈ [X1, X2] := by
  intro Y h
  by_cases a : A
  · by_cases b : B
    · rw [e2_t a b] at h; cases h
    · rw [e2_2 a b] at h; cases h; simp
  · rw [e2_1 a] at h; cases h; simp
theorem mem3 {A B C : Prop} {X1 X2 X3 : String} : ∀ Y, e3 A B C X1 X2 X3 = some Y → Y ∈ [X1, X2, X3] := by
  intro Y h
  by_cases a : A
  · by_cases b : B
    · by_cases c : C
      · rw [e3_t a b c] at h; cases h
      · rw [e3_3 a b c] at h; cases h; simp
    · rw [e3_2 a b] at h; cases h; simp
  · rw [e3_1 a] at h; cases h; simp
theorem none2 {A B : Prop} {X Y : String} (h : e2 A B X Y = none) : A ∧ B := by
  by_cases a : A
  · by_cases b : B
    · exact ⟨a, b⟩
    · rw [e2_2 a b] at h; cases h
  · rw [e2_1 a] at h; cases h
theorem none3 {A B C : Prop} {X Y Z : String} (h : e3 A B C X Y Z = none) : A ∧ B ∧ C := by
  by_cases a : A
  · by_cases b : B
    · by_cases c : C
      · exact ⟨a, b, c⟩
      · rw [e3_3 a b c] at h; cases h
    · rw [e3_2 a b] at h; cases h
  · rw [e3_1 a] at h; cases h
/-! bounds on both sides -/
theorem le_i {a b : Int32} : a ≤ b ↔ ¬ b < a := by rw [i_le, i_lt]; omega
theorem ky_in {y : Int32} : kyP y ↔ inP y 0 5 := by
  unfold kyP inP
  rw [i_lt, i_lt, i_lt, show (0 : Int32).toInt = 0 from rfl, show (5 : Int32).toInt = 5 from rfl, show (6 : Int32).toInt = 6 from rfl]
  omega
theorem pg_in {y : Int32} : pgP y ↔ inP y 0 3 := by
  unfold pgP inP
  rw [i_lt, i_lt, i_lt, show (0 : Int32).toInt = 0 from rfl, show (3 : Int32).toInt = 3 from rfl, show (4 : Int32).toInt = 4 from rfl]
  omega
theorem sl_in {y : Int32} : slP y ↔ inP y 0 7 := by
  unfold slP inP
  rw [i_lt, i_lt, i_lt, show (0 : Int32).toInt = 0 from rfl, show (7 : Int32).toInt = 7 from rfl, show (8 : Int32).toInt = 8 from rfl]
  omega
theorem st_in {y : Int32} : stP y ↔ inP y 0 63 := by
  unfold stP inP
  rw [i_lt, i_lt, i_lt, show (0 : Int32).toInt = 0 from rfl, show (63 : Int32).toInt = 63 from rfl, show (64 : Int32).toInt = 64 from rfl]
  omega
theorem va_in {y : Int32} : vaP y ↔ inP y 0 9999 := by
  unfold vaP inP
  rw [i_lt, i_lt, i_lt, show (0 : Int32).toInt = 0 from rfl, show (9999 : Int32).toInt = 9999 from rfl, show (10000 : Int32).toInt = 10000 from rfl]
  omega
theorem jm_in {y : Int32} : jmP y ↔ inP y 1 20 := by
  unfold jmP inP
  rw [le_i]
theorem fz_in {y : Int32} : fzR y ↔ inP y 1 27 := by
  unfold fzR inP
  rw [le_i]
theorem rem64 {a : Nat} (h : a < 2 ^ 31) : nI a - nI a / 64 * 64 = nI (a % 64) := pk_rem (d := 64) h (by omega) (by omega)
theorem jm_at {x : Int32} (h : jmP x) : ∃ j : Nat, j ≤ 20 ∧ 1 ≤ j ∧ x = nI j := by
  have h0 : ¬ x < 0 := by
    have := h.1
    rw [i_lt, show (1 : Int32).toInt = 1 from rfl] at this
    rw [i_lt, show (0 : Int32).toInt = 0 from rfl]
    omega
  obtain ⟨j, hj, e⟩ := nI_of h0
  refine ⟨j, ?_, ?_, e⟩
  · have := h.2
    rw [e, i_le, nI_toInt hj, show (20 : Int32).toInt = 20 from rfl] at this
    omega
  · have := h.1
    rw [e, i_lt, nI_toInt hj, show (1 : Int32).toInt = 1 from rfl] at this
    omega

-- texts: P t p is what part p of text t is read into, the values ahead of what is done with them (codes: below 6 a name, 11 .. 19 what is done, 100000 + v a number)
abbrev zP : Type := Nat → Nat → List Nat
def encC (v : Nat) : Int32 := if 100000 ≤ v then nI (v - 100000) else if v < 6 then -1 - nI v else if v = 11 then -27 else if v = 12 then -26 else if v = 13 then -12 else if v = 14 then -24 else if v = 15 then -25 else if v = 16 then -21 else if v = 17 then -22 else if v = 18 then -23 else -11
def op1 (v : Nat) (a : Int32) : Int32 := if v = 13 then (if a = 0 then 1 else 0) else -a
def op2 (v : Nat) (a b : Int32) : Int32 := if v = 11 then (if a = 0 then (if b = 0 then 0 else 1) else 1) else if v = 12 then (if a = 0 then 0 else if b = 0 then 0 else 1) else if v = 14 then (if b ≤ a then 0 else 1) else if v = 15 then (if a = b then 1 else 0) else if v = 16 then a + b else if v = 17 then a - b else a * b
def isNm (v : Nat) : Prop := v < 6
def isNo (v : Nat) : Prop := 100000 ≤ v ∧ v ≤ 109999
def isO1 (v : Nat) : Prop := v = 13 ∨ v = 19
def isO2 (v : Nat) : Prop := v = 11 ∨ v = 12 ∨ (14 ≤ v ∧ v ≤ 18)
def tokOk (v : Nat) : Prop := isNm v ∨ isNo v ∨ isO1 v ∨ isO2 v
def ev1 (x : Nat → Int32) (v : Nat) (st : List Int32) : List Int32 := if 100000 ≤ v then nI (v - 100000) :: st else if v < 6 then x v :: st else if v = 13 ∨ v = 19 then op1 v (st.headD 0) :: st.tail else op2 v (st.tail.headD 0) (st.headD 0) :: st.tail.tail
def evS (x : Nat → Int32) : List Nat → List Int32 → List Int32
  | [], st => st
  | v :: r, st => evS x r (ev1 x v st)
def dp1 (v d : Nat) : Option Nat := if 100000 ≤ v then some (d + 1) else if v < 6 then some (d + 1) else if v = 13 ∨ v = 19 then (if 1 ≤ d then some d else none) else if 2 ≤ d then some (d - 1) else none
def dpS : List Nat → Nat → Option Nat
  | [], d => some d
  | v :: r, d => match dp1 v d with
    | some e => dpS r e
    | none => none
def stk (c : Nat) (s : zMem) : List Int32 → Prop
  | [] => True
  | a :: t => s c t.length = a ∧ stk c s t
theorem stk_up {c k : Nat} {s : zMem} {v : Int32} : ∀ {t : List Int32}, stk c s t → t.length ≤ k → stk c (zUp s c k v) t := by
  intro t
  induction t with
  | nil => intro _ _; trivial
  | cons a t ih =>
    intro h hk
    simp only [List.length_cons] at hk
    exact ⟨by rw [zUp_off (by omega)]; exact h.1, ih h.2 (by omega)⟩
theorem stk_push {c : Nat} {s : zMem} {v : Int32} {t : List Int32} (h : stk c s t) : stk c (zUp s c t.length v) (v :: t) := ⟨zUp_hit _ _ _ _, stk_up h (Nat.le_refl _)⟩
theorem cat_no {v : Nat} (h : isNo v) (s : zMem) : f_X0_isOfTwo (encC v) s = some (0, s) ∧ f_X0_isOfOne (encC v) s = some (0, s) ∧ f_X0_isName (encC v) s = some (0, s) ∧ encC v = nI (v - 100000) := by
  obtain ⟨h1, h2⟩ := h
  have e : encC v = nI (v - 100000) := if_pos h1
  have l : ∀ z : Int32, z < 0 → z < nI (v - 100000) := fun z hz => Int32.lt_of_lt_of_le hz (nI_pos' (by omega))
  have n0 : ∀ z : Int32, z < 0 → ¬ nI (v - 100000) = z := fun z hz q => by have := l z hz; rw [q] at this; exact Int32.lt_irrefl this
  refine ⟨?_, ?_, ?_, e⟩
  · unfold f_X0_isOfTwo
    rw [e, if_pos (l _ (by decide))]
  · unfold f_X0_isOfOne
    rw [e, if_neg (n0 _ (by decide)), if_neg (n0 _ (by decide))]
  · unfold f_X0_isName
    rw [e, if_pos (l _ (by decide))]
theorem cat_nm {v : Nat} (h : isNm v) (s : zMem) : f_X0_isOfTwo (encC v) s = some (0, s) ∧ f_X0_isOfOne (encC v) s = some (0, s) ∧ f_X0_isName (encC v) s = some (1, s) ∧ f_X0_ofName (encC v) s = some (nI v, s) := by
  unfold isNm at h
  rcases (by omega : v = 0 ∨ v = 1 ∨ v = 2 ∨ v = 3 ∨ v = 4 ∨ v = 5) with rfl | rfl | rfl | rfl | rfl | rfl <;> exact ⟨rfl, rfl, rfl, rfl⟩
theorem cat_o1 {v : Nat} (h : isO1 v) (a : Int32) (s : zMem) : f_X0_isOfTwo (encC v) s = some (0, s) ∧ f_X0_isOfOne (encC v) s = some (1, s) ∧ f_X0_ofOne (encC v) a s = some (op1 v a, s) := by
  rcases h with rfl | rfl
  · refine ⟨rfl, rfl, ?_⟩
    show (if a = 0 then some ((1 : Int32), s) else some (0, s)) = some (if a = 0 then 1 else 0, s)
    split <;> rfl
  · exact ⟨rfl, rfl, rfl⟩
theorem cat_o2 {v : Nat} (h : isO2 v) (a b : Int32) (s : zMem) : f_X0_isOfTwo (encC v) s = some (1, s) ∧ f_X0_ofTwo (encC v) a b s = some (op2 v a b, s) := by
  rcases (by unfold isO2 at h; omega : v = 11 ∨ v = 12 ∨ v = 14 ∨ v = 15 ∨ v = 16 ∨ v = 17 ∨ v = 18) with rfl | rfl | rfl | rfl | rfl | rfl | rfl
  · refine ⟨rfl, ?_⟩
    show (if a = 0 then (if b = 0 then some ((0 : Int32), s) else some (1, s)) else some (1, s)) = some (if a = 0 then (if b = 0 then 0 else 1) else 1, s)
    split <;> (try split) <;> rfl
  · refine ⟨rfl, ?_⟩
    show (if a = 0 then some ((0 : Int32), s) else if b = 0 then some (0, s) else some (1, s)) = some (if a = 0 then 0 else if b = 0 then 0 else 1, s)
    split <;> (try split) <;> rfl
  · refine ⟨rfl, ?_⟩
    show (if b ≤ a then some ((0 : Int32), s) else some (1, s)) = some (if b ≤ a then 0 else 1, s)
    split <;> rfl
  · refine ⟨rfl, ?_⟩
    show (if a = b then some ((1 : Int32), s) else some (0, s)) = some (if a = b then 1 else 0, s)
    split <;> rfl
  · exact ⟨rfl, rfl⟩
  · exact ⟨rfl, rfl⟩
  · exact ⟨rfl, rfl⟩
theorem two_o2 {v : Nat} (h : isO2 v) (a b : Int32) (s : zMem) : f_X7_two (nI v) a b s = some (op2 v a b, s) := by
  rcases (by unfold isO2 at h; omega : v = 11 ∨ v = 12 ∨ v = 14 ∨ v = 15 ∨ v = 16 ∨ v = 17 ∨ v = 18) with rfl | rfl | rfl | rfl | rfl | rfl | rfl
  · show (if a = 0 then (if b = 0 then some ((0 : Int32), s) else some (1, s)) else some (1, s)) = some (if a = 0 then (if b = 0 then 0 else 1) else 1, s)
    split <;> (try split) <;> rfl
  · show (if a = 0 then some ((0 : Int32), s) else if b = 0 then some (0, s) else some (1, s)) = some (if a = 0 then 0 else if b = 0 then 0 else 1, s)
    split <;> (try split) <;> rfl
  · show (if b ≤ a then some ((0 : Int32), s) else some (1, s)) = some (if b ≤ a then 0 else 1, s)
    split <;> rfl
  · show (if a = b then some ((1 : Int32), s) else some (0, s)) = some (if a = b then 1 else 0, s)
    split <;> rfl
  · rfl
  · rfl
  · rfl

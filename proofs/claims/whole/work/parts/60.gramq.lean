-- the model's loop keeps the grammar: the claim of a level
def topLt (b : Nat) (H : List Nat) : Prop := ∀ a t, H = a :: t → rk a < b
def hrK (k : Nat) : Nat := if k = 0 then 1 else if k = 1 then 2 else if k = 2 then 4 else if k = 3 then 5 else if k = 4 then 6 else 7
def drK (k : Nat) : Nat := if k = 0 then 1 else if k = 1 then 2 else if k = 2 then 3 else if k = 3 then 5 else 6
abbrev d5 (H : List Nat) : List Nat := H.dropWhile (fun u => decide (5 ≤ rk u))
def stopK (k t : Nat) (D1 : List Nat) : Prop := (k = 0 → t ≠ 7) ∧ (k ≤ 1 → t ≠ 8) ∧ (k ≤ 3 → t ≠ 43 ∧ t ≠ 45) ∧ (k ≤ 4 → t ≠ 42) ∧ (k ≤ 2 → t = 60 ∨ t = 61 → tk4 (d5 D1) = true)
def simR (B : Nat → Nat) (z K : Nat) (c : zMem → Option (Int32 × zMem)) (k : Nat) (H W : List Nat) (q n : Nat) (L : Option (Int32 × zMem)) (r : zGr) : Prop := match r with
  | .error f => ∃ S, L = some (0, S) ∧ S 47 24 = nI f
  | .ok (q1, D) => ∃ D1 E S n2 m2, L = f_X7_eRead_14 c n2 0 m2 S ∧ n ≤ n2 + (q1 - q) ∧ mLp B z K (D1 ++ H) (W ++ E) q1 S ∧ E ++ D1 = D ∧ (∀ v, v ∈ D1 → drK k ≤ rk v ∧ rk v < 7) ∧ stopK k (tkK B z q1) D1
theorem tw_app {f : Nat → Bool} : ∀ (D1 H : List Nat), (∀ v, v ∈ D1 → f v = true) → (D1 ++ H).takeWhile f = D1 ++ H.takeWhile f ∧ (D1 ++ H).dropWhile f = H.dropWhile f := by
  intro D1
  induction D1 with
  | nil => intro H _; exact ⟨rfl, rfl⟩
  | cons a t ih =>
    intro H h
    have ha := h a (List.mem_cons_self ..)
    have := ih H (fun v hv => h v (List.mem_cons_of_mem _ hv))
    rw [List.cons_append, List.takeWhile_cons, List.dropWhile_cons, if_pos ha, if_pos ha, this.1, this.2]
    exact ⟨rfl, rfl⟩
theorem top_w {b : Nat} {H : List Nat} (h : topLt b H) : H.takeWhile (fun u => decide (b ≤ rk u)) = [] ∧ H.dropWhile (fun u => decide (b ≤ rk u)) = H := by
  cases H with
  | nil => exact ⟨rfl, rfl⟩
  | cons a t =>
    have := h a t rfl
    rw [List.takeWhile_cons, List.dropWhile_cons, if_neg (by simp; omega), if_neg (by simp; omega)]
    exact ⟨rfl, rfl⟩
theorem tk4_app {D1 : List Nat} {c : Nat} (h : tk4 (d5 D1) = true) : tk4 (d5 (D1 ++ [c])) = true := by
  induction D1 with
  | nil => cases h
  | cons a t ih =>
    unfold d5 at h ih ⊢
    rw [List.cons_append, List.dropWhile_cons]
    rw [List.dropWhile_cons] at h
    by_cases q : 5 ≤ rk a
    · rw [if_pos (decide_eq_true q)] at h ⊢
      exact ih h
    · rw [if_neg (by simpa using q)] at h ⊢
      exact h
theorem opK_sg {k t c : Nat} (h : opK k t = some c) : sgn t = some c ∧ lvB c = drK k ∧ hrK k = drK k ∧ rk c ≠ 4 ∧ rk c < hrK (k + 1) ∧ drK k ≤ rk c ∧ rk c < 7 ∧ (k = 0 ∨ k = 1 ∨ k = 3 ∨ k = 4) ∧ (c ≤ 12 ↔ k ≤ 1) ∧ isOp c = false := by
  unfold opK at h
  by_cases k0 : k = 0
  · subst k0
    rw [if_pos rfl] at h
    split at h
    · rename_i e; injection h with h; subst h; subst e; decide
    · cases h
  · rw [if_neg k0] at h
    by_cases k1 : k = 1
    · subst k1
      rw [if_pos rfl] at h
      split at h
      · rename_i e; injection h with h; subst h; subst e; decide
      · cases h
    · rw [if_neg k1] at h
      by_cases k3 : k = 3
      · subst k3
        rw [if_pos rfl] at h
        split at h
        · rename_i e; injection h with h; subst h; subst e; decide
        · split at h
          · rename_i e; injection h with h; subst h; subst e; decide
          · cases h
      · rw [if_neg k3] at h
        by_cases k4 : k = 4
        · subst k4
          rw [if_pos rfl] at h
          split at h
          · rename_i e; injection h with h; subst h; subst e; decide
          · cases h
        · rw [if_neg k4] at h
          cases h

-- PURE PART. What the two sides say is one mathematical value: T j i, natural numbers
theorem nm_eq {α β : Sort _} (v : α) (e : α → β) : nm v e = e v := rfl
theorem gd_t {α : Type} {c : Bool} {e : Option α} (h : c = true) : gd c e = e := if_pos h
theorem bd_s {α β : Type} (r : α) (S : zMem) (f : α → zMem → Option β) : bd (some (r, S)) f = f r S := rfl
theorem zif01 {c : Prop} [Decidable c] {α : Sort _} (A B : α) : (if (if c then (1 : Int32) else 0) = 0 then A else B) = if c then B else A := by
  by_cases h : c
  · rw [if_pos h, if_pos h, if_neg (by decide)]
  · rw [if_neg h, if_neg h, if_pos rfl]
theorem zif10 {c : Prop} [Decidable c] {α : Sort _} (A B : α) : (if (if c then (0 : Int32) else 1) = 0 then A else B) = if c then A else B := by
  by_cases h : c
  · rw [if_pos h, if_pos h, if_pos rfl]
  · rw [if_neg h, if_neg h, if_neg (by decide)]
theorem z01_if {c : Prop} [Decidable c] : z01 (if c then (1 : Int32) else 0) = true := by
  by_cases h : c
  · rw [if_pos h]; rfl
  · rw [if_neg h]; rfl
theorem zib_nI {i n : Nat} (h : i < n) (hn : n < 2 ^ 31) : zib (nI i) n = true := by
  have h1 : zix (nI i) = i := nI_clamp (by omega)
  simp only [zib, Bool.and_eq_true, decide_eq_true_eq, h1]
  exact ⟨nI_pos' (by omega), h⟩
theorem zix_nI {n : Nat} (h : n < 2 ^ 31) : zix (nI n) = n := nI_clamp h
theorem zUp_at (σ : zMem) (a k : Nat) (v : Int32) (x y : Nat) : zUp σ a k v x y = if x = a ∧ y = k then v else σ x y := by
  unfold zUp
  by_cases h : x = a
  · subst h
    rw [if_pos rfl]
    unfold upd
    by_cases h2 : y = k
    · rw [if_pos h2, if_pos ⟨rfl, h2⟩]
    · rw [if_neg h2, if_neg (fun q => h2 q.2)]
  · rw [if_neg h, if_neg (fun q => h q.1)]
theorem zUp_hit (σ : zMem) (a k : Nat) (v : Int32) : zUp σ a k v a k = v := by rw [zUp_at, if_pos ⟨rfl, rfl⟩]
theorem zUp_off {σ : zMem} {a k x y : Nat} {v : Int32} (h : x ≠ a ∨ y ≠ k) : zUp σ a k v x y = σ x y := by rw [zUp_at, if_neg (by omega)]
theorem zmin_nI {a b : Nat} (ha : a < 2 ^ 31) (hb : b < 2 ^ 31) : zmin (nI a) (nI b) = nI (min a b) := by
  unfold zmin
  by_cases h : b < a
  · rw [if_pos ((nI_ltI hb ha).mpr h), Nat.min_eq_right (by omega)]
  · rw [if_neg (fun q => h ((nI_ltI hb ha).mp q)), Nat.min_eq_left (by omega)]
theorem nI_or (a b : Nat) : nI a ||| nI b = nI (a ||| b) := by
  unfold nI
  apply Int32.toBitVec_inj.mp
  rw [Int32.toBitVec_or]
  show BitVec.ofNat 32 a ||| BitVec.ofNat 32 b = BitVec.ofNat 32 (a ||| b)
  rw [BitVec.ofNat_or]
theorem nI_shl : ∀ h, h < 6 → (1 : Int32) <<< (nI h &&& 31) = nI (2 ^ h) := by decide
theorem nI_sub {a b : Nat} (h : b ≤ a) : nI a - nI b = nI (a - b) := pk_sub h
theorem nI_mul (a b : Nat) : nI a * nI b = nI (a * b) := pk_mul a b
theorem nI_m1 {a : Nat} (h : 0 < a) : nI a + (-1) = nI (a - 1) := by
  obtain ⟨n, rfl⟩ : ∃ n, a = n + 1 := ⟨a - 1, by omega⟩
  exact pk_m1 n
theorem k_isFromTo (v lo hi : Int32) (s : zMem) : f_X6_isFromTo v lo hi s = some (if lo ≤ v ∧ v ≤ hi then 1 else 0, s) := by
  unfold f_X6_isFromTo
  by_cases h1 : v < lo
  · rw [if_pos h1, if_neg (fun q => absurd h1 (Int32.not_lt.mpr q.1))]
  · rw [if_neg h1]
    by_cases h2 : hi < v
    · rw [if_pos h2, if_neg (fun q => absurd h2 (Int32.not_lt.mpr q.2))]
    · rw [if_neg h2, if_pos ⟨Int32.not_lt.mp h1, Int32.not_lt.mp h2⟩]
theorem k_in (v lo hi : Int32) (s : zMem) : f_X7_in v lo hi s = some (if lo ≤ v ∧ v ≤ hi then 1 else 0, s) := k_isFromTo v lo hi s
theorem k_within (v lo hi : Int32) (s : zMem) : f_X7_within v lo hi s = some (if lo ≤ v then (if v ≤ hi then v else hi) else lo, s) := by
  unfold f_X7_within
  split <;> (try split) <;> rfl
-- the value: 0 heat 1 wood 2 cold 3 kind 4 more (of huts), 5 from 6 to 7 coal 8 due (of loans), 9: huts, loans, night, law
abbrev zT : Type := Nat → Nat → Nat
def tU (T : zT) (j i v : Nat) : zT := fun x y => if x = j ∧ y = i then v else T x y
theorem tU_hit (T : zT) (j i v : Nat) : tU T j i v j i = v := by simp [tU]
theorem tU_off {T : zT} {j i v x y : Nat} (h : x ≠ j ∨ y ≠ i) : tU T j i v x y = T x y := by
  unfold tU
  rw [if_neg (by omega)]
def tIn (T : zT) (j i : Nat) : Prop := (j < 5 ∧ i < T 9 0) ∨ (5 ≤ j ∧ j < 9 ∧ i < T 9 1) ∨ (j = 9 ∧ i < 4)
def tBd (M : Nat) (T : zT) : Prop := T 9 0 ≤ 6 ∧ T 9 1 ≤ 10 ∧ T 9 2 ≤ M ∧ T 9 3 < 6 ∧ M ≤ 100000 ∧ (∀ i, i < T 9 0 → T 0 i ≤ 9999 ∧ T 1 i ≤ 99 ∧ T 2 i ≤ 99 ∧ T 3 i ≤ 5 ∧ T 4 i ≤ 9) ∧ ∀ k, k < T 9 1 → T 5 k < T 9 0 ∧ T 6 k < T 9 0 ∧ T 7 k ≤ 9999 ∧ T 8 k ≤ 5000
def cA (w j : Nat) : Nat := if j < 9 then w + (j + 1) else w
def cI (j i : Nat) : Nat := if j < 9 then i else 9 + i
def rC (w : Nat) (s : zMem) (T : zT) : Prop := ∀ j i, tIn T j i → s (cA w j) (cI j i) = nI (T j i)
def mA (j : Nat) : Nat := if j < 3 then 50 else if j < 5 then 45 + j else if j < 9 then 46 + j else 47
def mI (j i : Nat) : Nat := if j < 3 then 3 * i + j else if j < 9 then i else if i = 0 then 0 else if i = 3 then 15 else 7 + i
def rM (s : zMem) (T : zT) : Prop := ∀ j i, tIn T j i → s (mA j) (mI j i) = nI (T j i)
theorem rC.c0 {w : Nat} {s : zMem} {T : zT} (h : rC w s T) : s w 9 = nI (T 9 0) ∧ s w 10 = nI (T 9 1) ∧ s w 11 = nI (T 9 2) ∧ s w 12 = nI (T 9 3) :=
  ⟨h 9 0 (Or.inr (Or.inr ⟨rfl, by omega⟩)), h 9 1 (Or.inr (Or.inr ⟨rfl, by omega⟩)), h 9 2 (Or.inr (Or.inr ⟨rfl, by omega⟩)), h 9 3 (Or.inr (Or.inr ⟨rfl, by omega⟩))⟩
theorem rC.ch {w : Nat} {s : zMem} {T : zT} (h : rC w s T) {i : Nat} (hi : i < T 9 0) : s (w + 1) i = nI (T 0 i) ∧ s (w + 2) i = nI (T 1 i) ∧ s (w + 3) i = nI (T 2 i) ∧ s (w + 4) i = nI (T 3 i) ∧ s (w + 5) i = nI (T 4 i) :=
  ⟨h 0 i (Or.inl ⟨by omega, hi⟩), h 1 i (Or.inl ⟨by omega, hi⟩), h 2 i (Or.inl ⟨by omega, hi⟩), h 3 i (Or.inl ⟨by omega, hi⟩), h 4 i (Or.inl ⟨by omega, hi⟩)⟩
theorem rC.cl {w : Nat} {s : zMem} {T : zT} (h : rC w s T) {k : Nat} (hk : k < T 9 1) : s (w + 6) k = nI (T 5 k) ∧ s (w + 7) k = nI (T 6 k) ∧ s (w + 8) k = nI (T 7 k) ∧ s (w + 9) k = nI (T 8 k) :=
  ⟨h 5 k (Or.inr (Or.inl ⟨by omega, by omega, hk⟩)), h 6 k (Or.inr (Or.inl ⟨by omega, by omega, hk⟩)), h 7 k (Or.inr (Or.inl ⟨by omega, by omega, hk⟩)), h 8 k (Or.inr (Or.inl ⟨by omega, by omega, hk⟩))⟩
theorem rM.c0 {s : zMem} {T : zT} (h : rM s T) : s 47 0 = nI (T 9 0) ∧ s 47 8 = nI (T 9 1) ∧ s 47 9 = nI (T 9 2) ∧ s 47 15 = nI (T 9 3) :=
  ⟨h 9 0 (Or.inr (Or.inr ⟨rfl, by omega⟩)), h 9 1 (Or.inr (Or.inr ⟨rfl, by omega⟩)), h 9 2 (Or.inr (Or.inr ⟨rfl, by omega⟩)), h 9 3 (Or.inr (Or.inr ⟨rfl, by omega⟩))⟩
theorem rM.ch {s : zMem} {T : zT} (h : rM s T) {i : Nat} (hi : i < T 9 0) : s 50 (3 * i) = nI (T 0 i) ∧ s 50 (3 * i + 1) = nI (T 1 i) ∧ s 50 (3 * i + 2) = nI (T 2 i) ∧ s 48 i = nI (T 3 i) ∧ s 49 i = nI (T 4 i) :=
  ⟨h 0 i (Or.inl ⟨by omega, hi⟩), h 1 i (Or.inl ⟨by omega, hi⟩), h 2 i (Or.inl ⟨by omega, hi⟩), h 3 i (Or.inl ⟨by omega, hi⟩), h 4 i (Or.inl ⟨by omega, hi⟩)⟩
theorem rM.cl {s : zMem} {T : zT} (h : rM s T) {k : Nat} (hk : k < T 9 1) : s 51 k = nI (T 5 k) ∧ s 52 k = nI (T 6 k) ∧ s 53 k = nI (T 7 k) ∧ s 54 k = nI (T 8 k) :=
  ⟨h 5 k (Or.inr (Or.inl ⟨by omega, by omega, hk⟩)), h 6 k (Or.inr (Or.inl ⟨by omega, by omega, hk⟩)), h 7 k (Or.inr (Or.inl ⟨by omega, by omega, hk⟩)), h 8 k (Or.inr (Or.inl ⟨by omega, by omega, hk⟩))⟩
/-- one value of a hut or a loan is written (not how many there are) -/
theorem tIn_tU {T : zT} {j i v x y : Nat} (hj : j < 9) : tIn (tU T j i v) x y ↔ tIn T x y := by
  unfold tIn
  rw [tU_off (show 9 ≠ j ∨ 0 ≠ i by omega), tU_off (show 9 ≠ j ∨ 1 ≠ i by omega)]
theorem rC.up {w : Nat} {s : zMem} {T : zT} (h : rC w s T) {j : Nat} (hj : j < 9) (i v : Nat) : rC w (zUp s (w + (j + 1)) i (nI v)) (tU T j i v) := by
  intro x y hxy
  have hxy := (tIn_tU hj).mp hxy
  have h1 := h x y hxy
  have hx : x < 9 ∨ x = 9 := by unfold tIn at hxy; omega
  rw [zUp_at]
  unfold tU
  rcases hx with hx | hx
  · simp only [cA, cI, if_pos hx] at h1 ⊢
    by_cases e : x = j ∧ y = i
    · rw [if_pos (by omega), if_pos e]
    · rw [if_neg (by omega), if_neg e, h1]
  · subst hx
    have e1 : cA w 9 = w := rfl
    have e2 : cI 9 y = 9 + y := rfl
    rw [e1, e2] at h1 ⊢
    rw [if_neg (by omega), if_neg (by omega)]
    exact h1
theorem rM.up {s : zMem} {T : zT} (h : rM s T) {j : Nat} (hj : j < 9) (i v : Nat) : rM (zUp s (mA j) (mI j i) (nI v)) (tU T j i v) := by
  intro x y hxy
  have hxy := (tIn_tU hj).mp hxy
  have h1 := h x y hxy
  have hx : x < 10 := by unfold tIn at hxy; omega
  rw [zUp_at]
  unfold tU
  by_cases e : x = j ∧ y = i
  · rw [if_pos (by rw [e.1, e.2]; exact ⟨rfl, rfl⟩), if_pos e]
  · rw [if_neg ?_, if_neg e, h1]
    intro q
    apply e
    have q1 := q.1
    have q2 := q.2
    unfold mA at q1
    unfold mI at q2
    split at q1 <;> split at q1 <;> (try split at q1) <;> (try split at q1) <;> (try split at q1) <;> (try split at q1) <;> (try omega) <;> simp_all <;> omega
/-- what isn't written of a world stays -/
theorem rC.of {w : Nat} {s S : zMem} {T : zT} (h : rC w s T) (hs : ∀ a k, (a = w ∧ 9 ≤ k ∧ k < 13) ∨ (w < a ∧ a < w + 10) → S a k = s a k) : rC w S T := by
  intro j i hji
  rw [← h j i hji]
  apply hs
  unfold tIn at hji
  unfold cA cI
  split <;> omega
def tS (f : Nat → Nat) : Nat → Nat
  | 0 => 0
  | n + 1 => tS f n + f n

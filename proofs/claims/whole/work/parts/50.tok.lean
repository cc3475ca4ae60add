-- tokens: what stands at a place of the tape
def adv (f : Nat → Bool) (B : Nat → Nat) (z : Nat) : Nat → Nat → Nat
  | 0, q => q
  | n + 1, q => if q < z ∧ f (B q) = true then adv f B z n (q + 1) else q
def run (f : Nat → Bool) (B : Nat → Nat) (z q : Nat) : Nat := adv f B z (z - q) q
theorem run_go {f : Nat → Bool} {B : Nat → Nat} {z q : Nat} (h : q < z) (hf : f (B q) = true) : run f B z q = run f B z (q + 1) := by
  unfold run
  rw [show z - q = (z - (q + 1)) + 1 by omega, adv, if_pos ⟨h, hf⟩]
theorem run_no {f : Nat → Bool} {B : Nat → Nat} {z q : Nat} (h : ¬ (q < z ∧ f (B q) = true)) : run f B z q = q := by
  unfold run
  cases z - q with
  | zero => rfl
  | succ n => rw [adv, if_neg h]
theorem adv_b (f : Nat → Bool) (B : Nat → Nat) (z : Nat) : ∀ n q, q ≤ adv f B z n q ∧ (q ≤ z → adv f B z n q ≤ z) := by
  intro n
  induction n with
  | zero => intro q; exact ⟨Nat.le_refl _, fun h => h⟩
  | succ n ih =>
    intro q
    rw [adv]
    split
    · rename_i h
      have := ih (q + 1)
      exact ⟨by omega, fun _ => this.2 (by omega)⟩
    · exact ⟨Nat.le_refl _, fun h => h⟩
theorem run_b (f : Nat → Bool) (B : Nat → Nat) (z q : Nat) : q ≤ run f B z q ∧ (q ≤ z → run f B z q ≤ z) := adv_b f B z _ q
def isBl (b : Nat) : Bool := b == 32 || b == 10
def isLe (b : Nat) : Bool := decide (97 ≤ b) && decide (b ≤ 122)
def isDi (b : Nat) : Bool := decide (48 ≤ b) && decide (b ≤ 57)
def isSg (b : Nat) : Bool := b == 40 || b == 41 || b == 42 || b == 43 || b == 45 || b == 59 || b == 60 || b == 61
def numR (B : Nat → Nat) (z : Nat) : Nat → Nat → Nat → Nat
  | 0, v, _ => v
  | n + 1, v, q => if q < z ∧ isDi (B q) = true then numR B z n (v * 10 + (B q - 48)) (q + 1) else v
def numV (B : Nat → Nat) (z v q : Nat) : Nat := numR B z (z - q) v q
theorem num_go {B : Nat → Nat} {z v q : Nat} (h : q < z) (hf : isDi (B q) = true) : numV B z v q = numV B z (v * 10 + (B q - 48)) (q + 1) := by
  unfold numV
  rw [show z - q = (z - (q + 1)) + 1 by omega, numR, if_pos ⟨h, hf⟩]
theorem num_no {B : Nat → Nat} {z v q : Nat} (h : ¬ (q < z ∧ isDi (B q) = true)) : numV B z v q = v := by
  unfold numV
  cases z - q with
  | zero => rfl
  | succ n => rw [numR, if_neg h]
-- the twelve words, in the reference's order, and which of them stands on the tape
def wds : List (List Nat) := [[103, 114, 111, 119, 115], [99, 111, 111, 108, 115], [98, 117, 114, 110, 115], [104, 101, 97, 116], [119, 111, 111, 100], [110, 105, 103, 104, 116], [99, 111, 97, 108], [111, 119, 101, 100], [109, 111, 114, 101], [111, 114], [97, 110, 100], [110, 111, 116]]
def wdN (k : Nat) : List Nat := wds.getD k []
def mt (B : Nat → Nat) : Nat → List Nat → Bool
  | _, [] => true
  | p, c :: r => decide (B p = c) && mt B (p + 1) r
def isWd (B : Nat → Nat) (b e k : Nat) : Bool := decide (e - b = (wdN k).length) && mt B b (wdN k)
def wixF (B : Nat → Nat) (b e : Nat) : Nat → Nat → Nat
  | 0, _ => 12
  | n + 1, k => if isWd B b e k = true then k else wixF B b e n (k + 1)
def wix (B : Nat → Nat) (b e : Nat) : Nat := wixF B b e 12 0
theorem wixF_s (B : Nat → Nat) (b e : Nat) : ∀ n k, n + k = 12 → (wixF B b e n k = 12 ∧ ∀ j, k ≤ j → j < 12 → isWd B b e j = false) ∨ (k ≤ wixF B b e n k ∧ wixF B b e n k < 12 ∧ isWd B b e (wixF B b e n k) = true) := by
  intro n
  induction n with
  | zero => intro k h; exact Or.inl ⟨rfl, fun j h1 h2 => by omega⟩
  | succ n ih =>
    intro k h
    rw [wixF]
    by_cases q : isWd B b e k = true
    · rw [if_pos q]
      exact Or.inr ⟨Nat.le_refl _, by omega, q⟩
    · rw [if_neg q]
      rcases ih (k + 1) (by omega) with ⟨h1, h2⟩ | ⟨h1, h2, h3⟩
      · refine Or.inl ⟨h1, fun j g1 g2 => ?_⟩
        by_cases c : j = k
        · subst c
          exact Bool.eq_false_iff.mpr q
        · exact h2 j (by omega) g2
      · exact Or.inr ⟨by omega, h2, h3⟩
theorem mt_at {B : Nat → Nat} : ∀ (l : List Nat) (p : Nat), mt B p l = true → ∀ i, i < l.length → B (p + i) = l.getD i 0 := by
  intro l
  induction l with
  | nil => intro p _ i hi; simp at hi
  | cons c r ih =>
    intro p h i hi
    unfold mt at h
    simp only [Bool.and_eq_true, decide_eq_true_eq] at h
    cases i with
    | zero => exact h.1
    | succ i =>
      have := ih (p + 1) h.2 i (by simp at hi; omega)
      rw [show p + (i + 1) = p + 1 + i by omega, this]
      rfl
theorem at_mt {B : Nat → Nat} : ∀ (l : List Nat) (p : Nat), (∀ i, i < l.length → B (p + i) = l.getD i 0) → mt B p l = true := by
  intro l
  induction l with
  | nil => intro p _; rfl
  | cons c r ih =>
    intro p h
    unfold mt
    simp only [Bool.and_eq_true, decide_eq_true_eq]
    refine ⟨h 0 (by simp), ih (p + 1) (fun i hi => ?_)⟩
    have := h (i + 1) (by simp; omega)
    rw [show p + 1 + i = p + (i + 1) by omega, this]
    rfl
theorem wd_ne : ∀ j, j < 12 → ∀ k, k < 12 → j ≠ k → (wdN j).length = (wdN k).length → ∃ i, i < (wdN j).length ∧ (wdN j).getD i 0 ≠ (wdN k).getD i 0 := by
  have h : ∀ j, j < 12 → ∀ k, k < 12 → (decide (j = k) || decide ((wdN j).length ≠ (wdN k).length) || (List.range (wdN j).length).any (fun i => decide ((wdN j).getD i 0 ≠ (wdN k).getD i 0))) = true := by decide +kernel
  intro j hj k hk hne hl
  have := h j hj k hk
  simp only [Bool.or_eq_true, decide_eq_true_eq, List.any_eq_true, List.mem_range] at this
  rcases this with (h1 | h1) | ⟨i, h1, h2⟩
  · exact absurd h1 hne
  · exact absurd hl h1
  · exact ⟨i, h1, h2⟩
theorem isWd_u {B : Nat → Nat} {b e j k : Nat} (hj : j < 12) (hk : k < 12) (h1 : isWd B b e j = true) (h2 : isWd B b e k = true) : j = k := by
  unfold isWd at h1 h2
  simp only [Bool.and_eq_true, decide_eq_true_eq] at h1 h2
  by_cases c : j = k
  · exact c
  · obtain ⟨i, g1, g2⟩ := wd_ne j hj k hk c (by omega)
    exact absurd ((mt_at _ _ h1.2 i g1).symm.trans (mt_at _ _ h2.2 i (by omega))) g2
theorem wix_hit {B : Nat → Nat} {b e k : Nat} (hk : k < 12) (h : isWd B b e k = true) : wix B b e = k := by
  rcases wixF_s B b e 12 0 rfl with ⟨h1, h2⟩ | ⟨_, h2, h3⟩
  · rw [h2 k (by omega) hk] at h; cases h
  · exact isWd_u h2 hk h3 h
theorem wix_not {B : Nat → Nat} {b e : Nat} (h : ∀ k, k < 12 → isWd B b e k = false) : wix B b e = 12 := by
  rcases wixF_s B b e 12 0 rfl with ⟨h1, _⟩ | ⟨_, h2, h3⟩
  · exact h1
  · have : isWd B b e (wix B b e) = false := h _ h2
    unfold wix at this
    rw [this] at h3; cases h3
-- the token read from q: where it begins, its kind (the class's numbers), its value, where it ends
def tkB (B : Nat → Nat) (z q : Nat) : Nat := run isBl B z q
def tkE (B : Nat → Nat) (z q : Nat) : Nat := if z ≤ tkB B z q then tkB B z q else if isLe (B (tkB B z q)) = true then run isLe B z (tkB B z q) else if isDi (B (tkB B z q)) = true then run isDi B z (tkB B z q) else tkB B z q + 1
def kdW (k : Nat) : Nat := if k < 3 then 4 + k else if k < 9 then 3 else if k = 12 then 1 else k - 2
def tkK (B : Nat → Nat) (z q : Nat) : Nat := if z ≤ tkB B z q then 0 else if isLe (B (tkB B z q)) = true then kdW (wix B (tkB B z q) (tkE B z q)) else if isDi (B (tkB B z q)) = true then (if tkE B z q - tkB B z q ≤ 4 then 2 else 1) else if isSg (B (tkB B z q)) = true then B (tkB B z q) else 1
def tkV (B : Nat → Nat) (z q : Nat) : Nat := if isLe (B (tkB B z q)) = true then wix B (tkB B z q) (tkE B z q) - 3 else numV B z 0 (tkB B z q)

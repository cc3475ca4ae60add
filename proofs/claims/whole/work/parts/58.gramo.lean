-- the model's loop keeps the grammar
def mLp (B : Nat → Nat) (z K : Nat) (H W : List Nat) (q : Nat) (s : zMem) : Prop := tpM B z s ∧ wdM s ∧ q ≤ z ∧ s 47 23 = nI q ∧ mSt K H W s ∧ W.length + H.length ≤ q
def mNx (B : Nat → Nat) (z K : Nat) (H W : List Nat) (q : Nat) (s : zMem) : Prop := tpM B z s ∧ wdM s ∧ s 47 23 = nI (tkE B z q) ∧ s 47 24 = nI (tkB B z q) ∧ s 47 25 = tkM (tkK B z q) ∧ (tkK B z q = 2 ∨ tkK B z q = 3 → s 47 26 = nI (tkV B z q)) ∧ (4 ≤ tkK B z q ∧ tkK B z q ≤ 6 → s 47 26 = nI (tkK B z q - 4)) ∧ mSt K H W s
theorem m_next {B : Nat → Nat} {z K q : Nat} {H W : List Nat} {s : zMem} (h : mLp B z K H W q s) : ∃ S, f_X7_next s = some ((), S) ∧ mNx B z K H W q S := by
  obtain ⟨t, w, hq, h5, m, hl⟩ := h
  obtain ⟨S, e, g1, g2, g3, g4, g5⟩ := m_tok t w hq h5
  have off : ∀ a k, ¬ (a = 47 ∧ (k = 23 ∨ k = 24 ∨ k = 25 ∨ k = 26)) → S a k = s a k := fun a k hk => fr_X7_next a k hk rfl _ S e
  exact ⟨S, e, t.of (off _ _ (by omega)) (fun i _ => off _ _ (by omega)), w.of (fun k => off _ _ (by omega)), g1, g2, g3, g4, g5, m.of (fun a k hk => off _ _ (by omega))⟩
theorem mNx.fr {B : Nat → Nat} {z K q : Nat} {H W H2 W2 : List Nat} {s S : zMem} (h : mNx B z K H W q s) (m : mSt K H2 W2 S) (hf : ∀ a k, ¬ (a = 47 ∧ (k = 29 ∨ k = 30 ∨ k = 31)) → a ≠ 56 → a ≠ 65 → S a k = s a k) : mNx B z K H2 W2 q S := by
  obtain ⟨t, w, h1, h2, h3, h4, h5, _⟩ := h
  exact ⟨t.of (hf _ _ (by omega) (by omega) (by omega)) (fun i _ => hf _ _ (by omega) (by omega) (by omega)), w.of (fun k => hf _ _ (by omega) (by omega) (by omega)), by rw [hf _ _ (by omega) (by omega) (by omega), h1], by rw [hf _ _ (by omega) (by omega) (by omega), h2], by rw [hf _ _ (by omega) (by omega) (by omega), h3], fun r => by rw [hf _ _ (by omega) (by omega) (by omega), h4 r], fun r => by rw [hf _ _ (by omega) (by omega) (by omega), h5 r], m⟩
theorem mNx.lp {B : Nat → Nat} {z K q : Nat} {H W : List Nat} {s : zMem} (h : mNx B z K H W q s) (hq : q ≤ z) (hl : W.length + H.length ≤ tkE B z q) : mLp B z K H W (tkE B z q) s := ⟨h.1, h.2.1, (tk_end (B := B) hq).1, h.2.2.1, h.2.2.2.2.2.2.2, hl⟩
theorem tkM_0 : ∀ k, k < 256 → (tkM k = 1 ↔ k = 2) := by decide +kernel
theorem tkM_1 : ∀ k, k < 256 → (tkM k = 2 ↔ k = 3) := by decide +kernel
theorem tkM_2 : ∀ k, k < 256 → (tkM k = 3 ↔ 4 ≤ k ∧ k ≤ 6) := by decide +kernel
theorem tkM_3 : ∀ k, k < 256 → (tkM k = 4 ↔ k = 7) := by decide +kernel
theorem tkM_4 : ∀ k, k < 256 → (tkM k = 5 ↔ k = 8) := by decide +kernel
theorem tkM_5 : ∀ k, k < 256 → (tkM k = 6 ↔ k = 9) := by decide +kernel
theorem tkM_6 : ∀ k, k < 256 → (10 ≤ k → tkM k = nI k) := by decide +kernel
theorem tkM_7 : ∀ k, k < 256 → (tkM k = 59 ↔ k = 59) := by decide +kernel
theorem tkM_8 : ∀ k, k < 256 → (tkM k = 41 ↔ k = 41) := by decide +kernel
theorem tkM_9 : ∀ k, k < 256 → (tkM k = 45 ↔ k = 45) := by decide +kernel
theorem tkM_10 : ∀ k, k < 256 → (tkM k = 40 ↔ k = 40) := by decide +kernel
theorem tkM_11 : ∀ k, k < 256 → (tkM k = 60 ↔ k = 60) := by decide +kernel
theorem tkM_12 : ∀ k, k < 256 → (tkM k = 61 ↔ k = 61) := by decide +kernel
theorem tkM_13 : ∀ k, k < 256 → (tkM k = 43 ↔ k = 43) := by decide +kernel
theorem tkM_14 : ∀ k, k < 256 → (tkM k = 42 ↔ k = 42) := by decide +kernel
theorem tkM_15 : ∀ k, k < 256 → (tkM k = 0 ↔ k = 0) := by decide +kernel
/-- what the model's token says of its kind -/
theorem tkM_at (k : Nat) (h : k < 256) : (tkM k = 1 ↔ k = 2) ∧ (tkM k = 2 ↔ k = 3) ∧ (tkM k = 3 ↔ 4 ≤ k ∧ k ≤ 6) ∧ (tkM k = 4 ↔ k = 7) ∧ (tkM k = 5 ↔ k = 8) ∧ (tkM k = 6 ↔ k = 9) ∧ (10 ≤ k → tkM k = nI k) ∧ (tkM k = 59 ↔ k = 59) ∧ (tkM k = 41 ↔ k = 41) ∧ (tkM k = 45 ↔ k = 45) ∧ (tkM k = 40 ↔ k = 40) ∧ (tkM k = 60 ↔ k = 60) ∧ (tkM k = 61 ↔ k = 61) ∧ (tkM k = 43 ↔ k = 43) ∧ (tkM k = 42 ↔ k = 42) ∧ (tkM k = 0 ↔ k = 0) :=
  ⟨tkM_0 k h, tkM_1 k h, tkM_2 k h, tkM_3 k h, tkM_4 k h, tkM_5 k h, tkM_6 k h, tkM_7 k h, tkM_8 k h, tkM_9 k h, tkM_10 k h, tkM_11 k h, tkM_12 k h, tkM_13 k h, tkM_14 k h, tkM_15 k h⟩
def sgn (k : Nat) : Option Nat := if k = 7 then some 11 else if k = 8 then some 12 else if k = 60 then some 14 else if k = 61 then some 15 else if k = 43 then some 16 else if k = 45 then some 17 else if k = 42 then some 18 else none
theorem m_signOf {B : Nat → Nat} {z K q : Nat} {H W : List Nat} {s : zMem} (h : mNx B z K H W q s) (hk : tkK B z q < 256) : f_X7_signOf s = some (match sgn (tkK B z q) with | some v => nI v | none => -1, s) := by
  have e := h.2.2.2.2.1
  generalize tkK B z q = k at e hk ⊢
  obtain ⟨a1, a2, a3, a4, a5, a6, a7, a8, a9, a10, a11, a12, a13, a14, a15, a16⟩ := tkM_at k hk
  unfold f_X7_signOf sgn
  rw [e]
  by_cases c7 : k = 7
  · rw [if_pos (a4.mpr c7), if_pos c7]; rfl
  rw [if_neg (fun r => c7 (a4.mp r)), if_neg c7]
  by_cases c8 : k = 8
  · rw [if_pos (a5.mpr c8), if_pos c8]; rfl
  rw [if_neg (fun r => c8 (a5.mp r)), if_neg c8]
  by_cases c60 : k = 60
  · rw [if_pos (a12.mpr c60), if_pos c60]; rfl
  rw [if_neg (fun r => c60 (a12.mp r)), if_neg c60]
  by_cases c61 : k = 61
  · rw [if_pos (a13.mpr c61), if_pos c61]; rfl
  rw [if_neg (fun r => c61 (a13.mp r)), if_neg c61]
  by_cases c43 : k = 43
  · rw [if_pos (a14.mpr c43), if_pos c43]; rfl
  rw [if_neg (fun r => c43 (a14.mp r)), if_neg c43]
  by_cases c45 : k = 45
  · rw [if_pos (a10.mpr c45), if_pos c45]; rfl
  rw [if_neg (fun r => c45 (a10.mp r)), if_neg c45]
  by_cases c42 : k = 42
  · rw [if_pos (a15.mpr c42), if_pos c42]; rfl
  rw [if_neg (fun r => c42 (a15.mp r)), if_neg c42]

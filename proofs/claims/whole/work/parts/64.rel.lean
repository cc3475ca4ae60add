-- one relation on the memory for both sides
abbrev zZ : Type := Nat → Nat → Int32
def shOk (Z : zZ) : Prop := ∀ i, i < 4 → (Z 0 i = -1 ∨ Z 0 i = 0 ∨ Z 0 i = 1 ∨ Z 0 i = 2) ∧ ∃ n, n ≤ 40 ∧ Z 1 i = nI n
def imM (s : zMem) (U : zT) : Prop := (∀ i, i < U 9 0 → s 58 (3 * i) = nI (U 0 i) ∧ s 58 (3 * i + 1) = nI (U 1 i) ∧ s 58 (3 * i + 2) = nI (U 2 i)) ∧ (∀ k, k < U 9 1 → s 58 (18 + k) = nI (U 5 k) ∧ s 58 (28 + k) = nI (U 6 k) ∧ s 58 (38 + k) = nI (U 7 k) ∧ s 58 (48 + k) = nI (U 8 k)) ∧ s 59 0 = nI (U 9 0) ∧ s 59 1 = nI (U 9 1) ∧ s 59 2 = nI (U 9 2) ∧ s 59 3 = nI (U 9 3)
def zRX (T U : zT) (P : zP) (K F : Nat) (Z : zZ) : Prop := tBd 999 T ∧ T 9 3 < K ∧ okP P K ∧ F ≤ 1 ∧ (F = 1 → tBd 999 U ∧ U 9 3 < K ∧ U 9 0 ≤ T 9 0 ∧ ∀ i, i < U 9 0 → T 3 i = U 3 i ∧ T 4 i = U 4 i) ∧ shOk Z
def zRC (T U : zT) (P : zP) (K F z : Nat) (B : Nat → Nat) (Z : zZ) (s : zMem) : Prop := rC 9 s T ∧ txC P K s ∧ s 1 3 = nI K ∧ tpC B z s ∧ s 0 7 = nI F ∧ (F = 1 → rC 31 s U) ∧ (∀ i, i < 4 → s 43 i = Z 0 i ∧ s 44 i = Z 1 i) ∧ ∀ i, i < 160 → s 45 i = Z 2 i
def zRM (T U : zT) (P : zP) (K F z : Nat) (B : Nat → Nat) (Z : zZ) (s : zMem) : Prop := rM s T ∧ txM P K s ∧ s 47 14 = nI K ∧ tpM B z s ∧ s 47 16 = nI F ∧ (F = 1 → imM s U) ∧ (∀ i, i < 4 → s 60 i = Z 0 i ∧ s 61 i = Z 1 i) ∧ (∀ i, i < 160 → s 62 i = Z 2 i) ∧ wdM s
def zRl (s : zMem) : Prop := ∃ T U P K F z B Z, zRX T U P K F Z ∧ zRC T U P K F z B Z s ∧ zRM T U P K F z B Z s
def cC (a k : Nat) : Prop := a = 0 ∨ a = 1 ∨ a = 2 ∨ a = 3 ∨ (a = 5 ∧ k = 1) ∨ a = 6 ∨ (9 ≤ a ∧ a ≤ 18) ∨ (31 ≤ a ∧ a ≤ 40) ∨ (43 ≤ a ∧ a ≤ 45)
def cM (a k : Nat) : Prop := (a = 47 ∧ (k = 0 ∨ k = 8 ∨ k = 9 ∨ k = 11 ∨ k = 14 ∨ k = 15 ∨ k = 16)) ∨ a = 48 ∨ a = 49 ∨ (a = 50 ∧ k < 18) ∨ (51 ≤ a ∧ a ≤ 54 ∧ k < 10) ∨ (55 ≤ a ∧ a ≤ 62) ∨ a = 64
theorem txC.of {P : zP} {K : Nat} {s S : zMem} (h : txC P K s) (h2 : ∀ k, S 2 k = s 2 k) (h3 : ∀ k, S 3 k = s 3 k) : txC P K S := fun t ht p hp => ⟨by rw [h3]; exact (h t ht p hp).1, (h t ht p hp).2.of h2⟩
theorem txM.of {P : zP} {K : Nat} {s S : zMem} (h : txM P K s) (h2 : ∀ k, S 56 k = s 56 k) (h3 : ∀ k, S 57 k = s 57 k) : txM P K S := fun t ht p hp => ⟨by rw [h3]; exact (h t ht p hp).1, by rw [h3]; exact (h t ht p hp).2.1, (h t ht p hp).2.2.of h2⟩
theorem imM.of {U : zT} {s S : zMem} (h : imM s U) (h2 : ∀ k, S 58 k = s 58 k) (h3 : ∀ k, S 59 k = s 59 k) : imM S U := by
  obtain ⟨a, b, c0, c1, c2, c3⟩ := h
  exact ⟨fun i hi => by rw [h2, h2, h2]; exact a i hi, fun k hk => by rw [h2, h2, h2, h2]; exact b k hk, by rw [h3, c0], by rw [h3, c1], by rw [h3, c2], by rw [h3, c3]⟩
theorem rM.of2 {M : Nat} {s S : zMem} {T : zT} (h : rM s T) (hb : tBd M T) (hs : ∀ a k, cM a k → S a k = s a k) : rM S T := by
  intro j i hji
  rw [← h j i hji]
  have h6 := hb.1
  have h10 := hb.2.1
  apply hs
  unfold tIn at hji
  unfold cM
  rcases hji with ⟨hj, hi⟩ | ⟨hj, hj2, hi⟩ | ⟨rfl, hi⟩
  · rcases (by omega : j = 0 ∨ j = 1 ∨ j = 2 ∨ j = 3 ∨ j = 4) with rfl | rfl | rfl | rfl | rfl
    · show _ ∨ _ ∨ _ ∨ (50 = 50 ∧ 3 * i + 0 < 18) ∨ _; omega
    · show _ ∨ _ ∨ _ ∨ (50 = 50 ∧ 3 * i + 1 < 18) ∨ _; omega
    · show _ ∨ _ ∨ _ ∨ (50 = 50 ∧ 3 * i + 2 < 18) ∨ _; omega
    · exact Or.inr (Or.inl rfl)
    · exact Or.inr (Or.inr (Or.inl rfl))
  · rcases (by omega : j = 5 ∨ j = 6 ∨ j = 7 ∨ j = 8) with rfl | rfl | rfl | rfl
    · show _ ∨ _ ∨ _ ∨ _ ∨ (51 ≤ 51 ∧ 51 ≤ 54 ∧ i < 10) ∨ _; omega
    · show _ ∨ _ ∨ _ ∨ _ ∨ (51 ≤ 52 ∧ 52 ≤ 54 ∧ i < 10) ∨ _; omega
    · show _ ∨ _ ∨ _ ∨ _ ∨ (51 ≤ 53 ∧ 53 ≤ 54 ∧ i < 10) ∨ _; omega
    · show _ ∨ _ ∨ _ ∨ _ ∨ (51 ≤ 54 ∧ 54 ≤ 54 ∧ i < 10) ∨ _; omega
  · rcases (by omega : i = 0 ∨ i = 1 ∨ i = 2 ∨ i = 3) with rfl | rfl | rfl | rfl
    · exact Or.inl ⟨rfl, Or.inl rfl⟩
    · exact Or.inl ⟨rfl, Or.inr (Or.inl rfl)⟩
    · exact Or.inl ⟨rfl, Or.inr (Or.inr (Or.inl rfl))⟩
    · exact Or.inl ⟨rfl, Or.inr (Or.inr (Or.inr (Or.inr (Or.inr (Or.inl rfl)))))⟩
theorem zRC.upT {T T' U : zT} {P : zP} {K F z : Nat} {B : Nat → Nat} {Z : zZ} {s S : zMem} (h : zRC T U P K F z B Z s) (hr : rC 9 S T') (hf : ∀ a k, cC a k → ¬ (9 ≤ a ∧ a ≤ 18) → S a k = s a k) : zRC T' U P K F z B Z S := by
  unfold cC at hf
  obtain ⟨h1, h2, h3, h4, h5, h6, h7, h8⟩ := h
  exact ⟨hr, h2.of (fun k => hf _ _ (by omega) (by omega)) (fun k => hf _ _ (by omega) (by omega)), by rw [hf _ _ (by omega) (by omega), h3], h4.of (hf _ _ (by omega) (by omega)) (fun i _ => hf _ _ (by omega) (by omega)), by rw [hf _ _ (by omega) (by omega), h5], fun q => (h6 q).of (fun a k hk => hf _ _ (by omega) (by omega)), fun i hi => by rw [hf _ _ (by omega) (by omega), hf _ _ (by omega) (by omega)]; exact h7 i hi, fun i hi => by rw [hf _ _ (by omega) (by omega)]; exact h8 i hi⟩
theorem zRC.of {T U : zT} {P : zP} {K F z : Nat} {B : Nat → Nat} {Z : zZ} {s S : zMem} (h : zRC T U P K F z B Z s) (hf : ∀ a k, cC a k → S a k = s a k) : zRC T U P K F z B Z S :=
  h.upT (h.1.of (fun a k hk => hf a k (by unfold cC; omega))) (fun a k hk _ => hf a k hk)
theorem zRM.upT {T T' U : zT} {P : zP} {K F z : Nat} {B : Nat → Nat} {Z : zZ} {s S : zMem} (h : zRM T U P K F z B Z s) (hr : rM S T') (hf : ∀ a k, cM a k → ¬ (a = 47 ∧ (k = 0 ∨ k = 8 ∨ k = 9 ∨ k = 15)) → ¬ (48 ≤ a ∧ a ≤ 54) → S a k = s a k) : zRM T' U P K F z B Z S := by
  unfold cM at hf
  obtain ⟨h1, h2, h3, h4, h5, h6, h7, h8, h9⟩ := h
  exact ⟨hr, h2.of (fun k => hf _ _ (by omega) (by omega) (by omega)) (fun k => hf _ _ (by omega) (by omega) (by omega)), by rw [hf _ _ (by omega) (by omega) (by omega), h3], h4.of (hf _ _ (by omega) (by omega) (by omega)) (fun i _ => hf _ _ (by omega) (by omega) (by omega)), by rw [hf _ _ (by omega) (by omega) (by omega), h5], fun q => (h6 q).of (fun k => hf _ _ (by omega) (by omega) (by omega)) (fun k => hf _ _ (by omega) (by omega) (by omega)), fun i hi => by rw [hf _ _ (by omega) (by omega) (by omega), hf _ _ (by omega) (by omega) (by omega)]; exact h7 i hi, fun i hi => by rw [hf _ _ (by omega) (by omega) (by omega)]; exact h8 i hi, h9.of (fun k => hf _ _ (by omega) (by omega) (by omega))⟩
theorem zRM.of {M : Nat} {T U : zT} {P : zP} {K F z : Nat} {B : Nat → Nat} {Z : zZ} {s S : zMem} (h : zRM T U P K F z B Z s) (hb : tBd M T) (hf : ∀ a k, cM a k → S a k = s a k) : zRM T U P K F z B Z S :=
  h.upT (h.1.of2 hb hf) (fun a k hk _ _ => hf a k hk)
theorem zRC.kOk {T U : zT} {P : zP} {K F z : Nat} {B : Nat → Nat} {Z : zZ} {s : zMem} (h : zRC T U P K F z B Z s) (hx : zRX T U P K F Z) : kOk (evP P) K 999 9 s T := ⟨by omega, h.1, hx.1, hx.2.1, zEC_of hx.2.2.1 h.2.1⟩
theorem zRM.mOk {T U : zT} {P : zP} {K F z : Nat} {B : Nat → Nat} {Z : zZ} {s : zMem} (h : zRM T U P K F z B Z s) (hx : zRX T U P K F Z) : mOk (evP P) K 999 s T := ⟨h.1, hx.1, hx.2.1, zEM_of hx.2.2.1 h.2.1⟩
theorem agM.c {s S : zMem} (h : agM s S) : ∀ a k, cM a k → S a k = s a k := fun a k hk => by
  unfold cM at hk
  exact h a k (by omega) (by omega) (by omega) (by omega) (by omega) (by omega) (by omega)
-- a step: both sides answer alike, and stay related
def stepOk {α : Type} (x y : zMem → Option (α × zMem)) : Prop := ∀ s, zRl s → ∃ v S S', x s = some (v, S) ∧ y S = some (v, S') ∧ zRl S'
theorem step_c {α : Type} {x y : zMem → Option (α × zMem)} (fx : ∀ a k v (s : zMem), 47 ≤ a → s a k = v → zFp a k v (x s)) (fy : ∀ a k v (s : zMem), a < 47 → s a k = v → zFp a k v (y s))
    (h : ∀ T U P K F z B Z s, zRX T U P K F Z → zRC T U P K F z B Z s → ∃ T' U' P' K' F' z' B' Z' v S, x s = some (v, S) ∧ zRX T' U' P' K' F' Z' ∧ zRC T' U' P' K' F' z' B' Z' S ∧ ∀ S, zRM T U P K F z B Z S → ∃ S', y S = some (v, S') ∧ zRM T' U' P' K' F' z' B' Z' S') : stepOk x y := by
  intro s hs
  obtain ⟨T, U, P, K, F, z, B, Z, hx, hc, hm⟩ := hs
  obtain ⟨T', U', P', K', F', z', B', Z', v, S, e1, hx', hc', hy⟩ := h T U P K F z B Z s hx hc
  have hm1 : zRM T U P K F z B Z S := hm.of hx.1 (fun a k hk => fx a k _ s (by unfold cM at hk; omega) rfl _ S e1)
  obtain ⟨S', e2, hm2⟩ := hy S hm1
  exact ⟨v, S, S', e1, e2, T', U', P', K', F', z', B', Z', hx', hc'.of (fun a k hk => fy a k _ S (by unfold cC at hk; omega) rfl _ S' e2), hm2⟩
theorem step_q {α : Type} {x y : zMem → Option (α × zMem)} (fx : ∀ a k v (s : zMem), (cC a k ∨ 47 ≤ a) → s a k = v → zFp a k v (x s)) (fy : ∀ a k v (s : zMem), a < 47 → s a k = v → zFp a k v (y s))
    (h : ∀ T U P K F z B Z s, zRX T U P K F Z → zRC T U P K F z B Z s → ∃ v S, x s = some (v, S) ∧ ∀ S, zRM T U P K F z B Z S → ∃ S', y S = some (v, S') ∧ ∀ a k, cM a k → S' a k = S a k) : stepOk x y := by
  refine step_c (fun a k v s h => fx a k v s (Or.inr h)) fy ?_
  intro T U P K F z B Z s hx hc
  obtain ⟨v, S, e1, hy⟩ := h T U P K F z B Z s hx hc
  refine ⟨T, U, P, K, F, z, B, Z, v, S, e1, hx, hc.of (fun a k hk => fx a k _ s (Or.inl hk) rfl _ S e1), fun S hm => ?_⟩
  obtain ⟨S', e2, f2⟩ := hy S hm
  exact ⟨S', e2, hm.of hx.1 f2⟩
-- what is asked first
theorem zif_c {c d : Prop} [Decidable c] [Decidable d] {α : Sort _} {x y u v : α} (h : c ↔ d) (h1 : x = u) (h2 : y = v) : (if c then x else y) = if d then u else v := by
  by_cases q : c
  · rw [if_pos q, if_pos (h.mp q), h1]
  · rw [if_neg q, if_neg (fun r => q (h.mpr r)), h2]
theorem pk_in2 (x : Int32) (n : Nat) (hn : n < 2 ^ 30) : (¬ (0 ≤ x ∧ x ≤ nI n)) ∨ ∃ j, j ≤ n ∧ x = nI j := by
  by_cases h : 0 ≤ x ∧ x ≤ nI n
  · obtain ⟨j, hj, rfl⟩ := nI_of (Int32.not_lt.mpr h.1)
    exact Or.inr ⟨j, (nI_leI hj (by omega)).mp h.2, rfl⟩
  · exact Or.inl h
theorem k_hutP {w n : Nat} {s : zMem} (p : Int32) (e : s w 9 = nI n) : f_X5_isHut w p s = some (if 0 ≤ p ∧ p < nI n then 1 else 0, s) := by
  unfold f_X5_isHut
  rw [e]
  by_cases h1 : p < 0
  · rw [if_pos h1, if_neg (fun q => absurd h1 (Int32.not_lt.mpr q.1))]
  · rw [if_neg h1]
    by_cases h2 : nI n ≤ p
    · rw [if_pos h2, if_neg (fun q => absurd h2 (Int32.not_le.mpr q.2))]
    · rw [if_neg h2, if_pos ⟨Int32.not_lt.mp h1, Int32.not_le.mp h2⟩]
theorem k_loanP {w n : Nat} {s : zMem} (p : Int32) (e : s w 10 = nI n) : f_X5_isLoan w p s = some (if 0 ≤ p ∧ p < nI n then 1 else 0, s) := by
  unfold f_X5_isLoan
  rw [e]
  by_cases h1 : p < 0
  · rw [if_pos h1, if_neg (fun q => absurd h1 (Int32.not_lt.mpr q.1))]
  · rw [if_neg h1]
    by_cases h2 : nI n ≤ p
    · rw [if_pos h2, if_neg (fun q => absurd h2 (Int32.not_le.mpr q.2))]
    · rw [if_neg h2, if_pos ⟨Int32.not_lt.mp h1, Int32.not_le.mp h2⟩]
theorem le_pred (p : Int32) (n : Nat) (hn : n < 1000) : (0 ≤ p ∧ p ≤ nI n - 1) ↔ (0 ≤ p ∧ p < nI n) := by
  have e0 : (0 : Int32).toInt = 0 := rfl
  have e1 : (nI n - 1).toInt = (n : Int) - 1 := pk_sub_toInt (a := n) (b := 1) (by omega) (by omega)
  have e2 : (nI n).toInt = (n : Int) := nI_toInt (by omega)
  rw [Int32.le_iff_toInt_le, Int32.le_iff_toInt_le, Int32.lt_iff_toInt_lt, e0, e1, e2]
  omega
theorem m_hutP {n : Nat} {s : zMem} (p : Int32) (e : s 47 0 = nI n) (hn : n < 1000) : f_X7_isHut p s = some (if 0 ≤ p ∧ p < nI n then 1 else 0, s) := by
  unfold f_X7_isHut
  rw [e, k_in, bd_s, gd_t z01_if]
  congr 2
  exact zif_c (le_pred p n hn) rfl rfl
theorem m_loanP {n : Nat} {s : zMem} (p : Int32) (e : s 47 8 = nI n) (hn : n < 1000) : f_X7_isLoan p s = some (if 0 ≤ p ∧ p < nI n then 1 else 0, s) := by
  unfold f_X7_isLoan
  rw [e, k_in, bd_s, gd_t z01_if]
  congr 2
  exact zif_c (le_pred p n hn) rfl rfl
theorem ltP (p : Int32) (n : Nat) (hn : n < 1000) : (¬ (0 ≤ p ∧ p < nI n)) ∨ ∃ j, j < n ∧ p = nI j := by
  by_cases h : 0 ≤ p ∧ p < nI n
  · obtain ⟨j, hj, rfl⟩ := nI_of (Int32.not_lt.mpr h.1)
    exact Or.inr ⟨j, (nI_ltI hj (by omega)).mp h.2, rfl⟩
  · exact Or.inl h
theorem ltP_t {j n : Nat} (h : j < n) (hn : n < 1000) : 0 ≤ nI j ∧ nI j < nI n := ⟨nI_pos' (by omega), nI_lt h (by omega)⟩
theorem inP_t {j n : Nat} (h : j ≤ n) (hn : n < 2 ^ 30) : 0 ≤ nI j ∧ nI j ≤ nI n := ⟨nI_pos' (by omega), nI_le h (by omega)⟩
-- sums that are asked for
theorem k_heatL {w N : Nat} {T : zT} {s : zMem} (e : s w 9 = nI N) (hN : N ≤ 6) (ha : ∀ k, k < N → s (w + 1) k = nI (T 0 k)) : ∀ (n i : Nat), i ≤ N → N - i < n → f_X5_heatOfAll_4 w n (nI (tS (T 0) i)) (nI i) s = some (nI (tS (T 0) N), s) := by
  intro n
  induction n with
  | zero => intro i h1 h2; omega
  | succ n ih =>
    intro i h1 h2
    rw [f_X5_heatOfAll_4, e]
    by_cases hi : N ≤ i
    · rw [if_pos (nI_le hi (by omega)), show i = N by omega]
    · rw [if_neg (nI_ge (by omega) (by omega)), gd_t (zib_nI (by omega) (by decide)), zix_nI (by omega), ha i (by omega), nm_eq, nm_eq, nI_add, nI_1]
      exact ih (i + 1) (by omega) (by omega)
theorem k_heat {w M : Nat} {T : zT} {s : zMem} (hr : rC w s T) (hb : tBd M T) : f_X5_heatOfAll w s = some (nI (heatT T), s) := by
  have := k_heatL hr.c0.1 hb.1 (fun k hk => (hr.ch hk).1) zN 0 (by omega) (by have := hb.1; unfold zN; omega)
  exact this
theorem m_heatL {N : Nat} {T : zT} {s : zMem} (e : s 47 0 = nI N) (hN : N ≤ 6) (ha : ∀ k, k < N → s 50 (3 * k) = nI (T 0 k)) : ∀ (n i : Nat), i ≤ N → N - i < n → f_X7_heatAll_4 n (nI (tS (T 0) i)) (nI i) s = some (nI (tS (T 0) N), s) := by
  intro n
  induction n with
  | zero => intro i h1 h2; omega
  | succ n ih =>
    intro i h1 h2
    rw [f_X7_heatAll_4, e]
    by_cases hi : N ≤ i
    · rw [if_pos (nI_le hi (by omega)), show i = N by omega]
    · rw [if_neg (nI_ge (by omega) (by omega)), n3m, gd_t (zib_nI (by omega) (by decide)), zix_nI (by omega), ha i (by omega), nm_eq, nm_eq, nI_add, nI_1]
      exact ih (i + 1) (by omega) (by omega)
theorem m_heat {M : Nat} {T : zT} {s : zMem} (hr : rM s T) (hb : tBd M T) : f_X7_heatAll s = some (nI (heatT T), s) := by
  have := m_heatL hr.c0.1 hb.1 (fun k hk => (hr.ch hk).1) zN 0 (by omega) (by have := hb.1; unfold zN; omega)
  exact this
theorem k_fromL {w N h : Nat} {T : zT} {s : zMem} (e : s w 10 = nI N) (hN : N ≤ 10) (hh : h < 2 ^ 31) (ha : ∀ k, k < N → s (w + 6) k = nI (T 5 k) ∧ T 5 k < 2 ^ 31) : ∀ (n i : Nat), i ≤ N → N - i < n → f_X5_loansFrom_4 w n (nI h) (nI (tS (fun k => if T 5 k = h then 1 else 0) i)) (nI i) s = some (nI (tS (fun k => if T 5 k = h then 1 else 0) N), s) := by
  intro n
  induction n with
  | zero => intro i h1 h2; omega
  | succ n ih =>
    intro i h1 h2
    rw [f_X5_loansFrom_4, e]
    by_cases hi : N ≤ i
    · rw [if_pos (nI_le hi (by omega)), show i = N by omega]
    · have hi2 : i < N := by omega
      have := ih (i + 1) (by omega) (by omega)
      rw [if_neg (nI_ge hi2 (by omega)), gd_t (zib_nI (by omega) (by decide)), zix_nI (by omega), (ha i hi2).1]
      by_cases hq : T 5 i = h
      · rw [if_pos (by rw [hq]), nm_eq, nm_eq, nI_1, nI_1]
        rw [show tS (fun k => if T 5 k = h then 1 else 0) (i + 1) = tS (fun k => if T 5 k = h then 1 else 0) i + 1 by simp [tS, hq]] at this
        exact this
      · rw [if_neg (fun q => hq ((nI_eq (ha i hi2).2 hh).mp q)), nm_eq, nI_1]
        rw [show tS (fun k => if T 5 k = h then 1 else 0) (i + 1) = tS (fun k => if T 5 k = h then 1 else 0) i by simp [tS, hq]] at this
        exact this
theorem k_from {w M h : Nat} {T : zT} {s : zMem} (hr : rC w s T) (hb : tBd M T) (hh : h < 2 ^ 31) : f_X5_loansFrom w (nI h) s = some (nI (fromT T h), s) := by
  have := k_fromL (h := h) hr.c0.2.1 hb.2.1 hh (fun k hk => ⟨(hr.cl hk).1, by have := (hb.2.2.2.2.2.2 k hk).1; have := hb.1; omega⟩) zN 0 (by omega) (by have := hb.2.1; unfold zN; omega)
  exact this
theorem m_fromL {N h : Nat} {T : zT} {s : zMem} (e : s 47 8 = nI N) (hN : N ≤ 10) (hh : h < 2 ^ 31) (ha : ∀ k, k < N → s 51 k = nI (T 5 k) ∧ T 5 k < 2 ^ 31) : ∀ (n i : Nat), i ≤ N → N - i < n → f_X7_lentBy_4 n (nI h) (nI (tS (fun k => if T 5 k = h then 1 else 0) i)) (nI i) s = some (nI (tS (fun k => if T 5 k = h then 1 else 0) N), s) := by
  intro n
  induction n with
  | zero => intro i h1 h2; omega
  | succ n ih =>
    intro i h1 h2
    rw [f_X7_lentBy_4, e]
    by_cases hi : N ≤ i
    · rw [if_pos (nI_le hi (by omega)), show i = N by omega]
    · have hi2 : i < N := by omega
      have := ih (i + 1) (by omega) (by omega)
      rw [if_neg (nI_ge hi2 (by omega)), gd_t (zib_nI (by omega) (by decide)), zix_nI (by omega), (ha i hi2).1]
      by_cases hq : T 5 i = h
      · rw [if_pos (by rw [hq]), nm_eq, nm_eq, nI_1, nI_1]
        rw [show tS (fun k => if T 5 k = h then 1 else 0) (i + 1) = tS (fun k => if T 5 k = h then 1 else 0) i + 1 by simp [tS, hq]] at this
        exact this
      · rw [if_neg (fun q => hq ((nI_eq (ha i hi2).2 hh).mp q)), nm_eq, nm_eq, nI_1, show (0 : Int32) = nI 0 from rfl, nI_add]
        rw [show tS (fun k => if T 5 k = h then 1 else 0) (i + 1) = tS (fun k => if T 5 k = h then 1 else 0) i by simp [tS, hq]] at this
        exact this
theorem m_from {M h : Nat} {T : zT} {s : zMem} (hr : rM s T) (hb : tBd M T) (hh : h < 2 ^ 31) : f_X7_lentBy (nI h) s = some (nI (fromT T h), s) := by
  have := m_fromL (h := h) hr.c0.2.1 hb.2.1 hh (fun k hk => ⟨(hr.cl hk).1, by have := (hb.2.2.2.2.2.2 k hk).1; have := hb.1; omega⟩) zN 0 (by omega) (by have := hb.2.1; unfold zN; omega)
  exact this
theorem m_cwTo {j h N : Nat} {T : zT} {s : zMem} (e : s 47 8 = nI N) (hN : N ≤ 10) (hh : h < 2 ^ 31) (ha : ∀ k, k < N → s 51 k = nI (T j k) ∧ T j k < 2 ^ 31) (hc : ∀ k, k < N → s 53 k = nI (T 7 k)) :
    ∀ (n i : Nat), i ≤ N → N - i < n → f_X7_owedTo_4 n (nI h) (nI (cwT T j h i)) (nI i) s = some (nI (cwT T j h N), s) := by
  intro n
  induction n with
  | zero => intro i h1 h2; omega
  | succ n ih =>
    intro i h1 h2
    rw [f_X7_owedTo_4, e]
    by_cases hi : N ≤ i
    · rw [if_pos (nI_le hi (by omega)), show i = N by omega]
    · have hi2 : i < N := by omega
      rw [if_neg (nI_ge hi2 (by omega)), gd_t (zib_nI (by omega) (by decide)), zix_nI (by omega), (ha i hi2).1]
      have := ih (i + 1) (by omega) (by omega)
      by_cases hq : T j i = h
      · rw [if_pos (by rw [hq]), gd_t (zib_nI (by omega) (by decide)), hc i hi2, nm_eq, nm_eq, nI_add, nI_1]
        rw [show cwT T j h (i + 1) = cwT T j h i + T 7 i by simp [cwT, tS, hq]] at this
        exact this
      · rw [if_neg (fun q => hq ((nI_eq (ha i hi2).2 hh).mp q)), nm_eq, nm_eq, nI_1, show (0 : Int32) = nI 0 from rfl, nI_add]
        rw [show cwT T j h (i + 1) = cwT T j h i by simp [cwT, tS, hq]] at this
        exact this
theorem m_owedTo {M h : Nat} {T : zT} {s : zMem} (hr : rM s T) (hb : tBd M T) (hh : h < 2 ^ 31) : f_X7_owedTo (nI h) s = some (nI (owedT T h), s) := by
  unfold f_X7_owedTo
  have := m_cwTo (j := 5) hr.c0.2.1 hb.2.1 hh (fun k hk => ⟨(hr.cl hk).1, by have := (hb.2.2.2.2.2.2 k hk).1; have := hb.1; omega⟩) (fun k hk => (hr.cl hk).2.2.1) zN 0 (by omega) (by have := hb.2.1; unfold zN; omega)
  rw [show (0 : Int32) = nI 0 from rfl]
  exact this

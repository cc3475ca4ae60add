-- thinking: the class copies a World into another, the model keeps its rows beside and lays them back
theorem zCp_hit {σ : zMem} {a b n k : Nat} (h : k < n) : zCp σ a 0 b 0 n b k = σ a k := by
  unfold zCp va_cpy
  rw [if_pos rfl, if_pos (by omega)]
  congr 1
  omega
theorem zCp_of0 {σ : zMem} {a b n x k : Nat} (h : x ≠ b) : zCp σ a 0 b 0 n x k = σ x k := by
  unfold zCp
  rw [if_neg h]
theorem rC.cp {w v M : Nat} {s S : zMem} {T : zT} (h : rC v s T) (hb : tBd M T) (h1 : ∀ j i, j < 5 → i < 6 → S (w + (j + 1)) i = s (v + (j + 1)) i) (h2 : ∀ j i, 5 ≤ j → j < 9 → i < 10 → S (w + (j + 1)) i = s (v + (j + 1)) i) (h3 : ∀ i, i < 4 → S w (9 + i) = s v (9 + i)) : rC w S T := by
  intro j i hji
  have := h j i hji
  have b6 := hb.1
  have b10 := hb.2.1
  unfold cA cI at this ⊢
  rcases hji with ⟨hj, hi⟩ | ⟨hj, hj2, hi⟩ | ⟨rfl, hi⟩
  · rw [if_pos (by omega), if_pos (by omega)] at this ⊢
    rw [h1 j i hj (by omega), this]
  · rw [if_pos (by omega), if_pos (by omega)] at this ⊢
    rw [h2 j i hj hj2 (by omega), this]
  · rw [if_neg (by omega), if_neg (by omega)] at this ⊢
    rw [h3 i hi, this]
theorem rC.cp2 {w v M : Nat} {s S : zMem} {T : zT} (h : rC v s T) (hb : tBd M T) (h1 : ∀ j i, j < 5 → i < 6 → S (w + (j + 1)) i = s (v + (j + 1)) i) (h2 : ∀ j i, 5 ≤ j → j < 9 → i < 10 → S (w + (j + 1)) i = s (v + (j + 1)) i) (h3 : ∀ i, i < 4 → S w (9 + i) = s v (9 + i)) : rC w S T ∧ (∀ j i, j < 5 → i < 6 → S (w + (j + 1)) i = s (v + (j + 1)) i) := ⟨h.cp hb h1 h2 h3, h1⟩
theorem k_become_20 {M : Nat} {s : zMem} {T : zT} (h : rC 9 s T) (hb : tBd M T) : ∃ S, f_X5_becomeAs 20 9 s = some ((), S) ∧ rC 20 S T ∧ (∀ j i, j < 5 → i < 6 → S (20 + (j + 1)) i = s (9 + (j + 1)) i) := by
  have z0 : zix 0 = 0 := rfl
  have z6 : zix 6 = 6 := rfl
  have z10 : zix 10 = 10 := rfl
  unfold f_X5_becomeAs
  simp only [gd_t (c := zcpOk 0 0 6 6 6) rfl, gd_t (c := zcpOk 0 0 10 10 10) rfl, nm_eq, z0, z6, z10]
  refine ⟨_, rfl, h.cp2 hb ?_ ?_ ?_⟩
  rotate_left
  · intro j i hj hj2 hi
    rcases (by omega : j = 5 ∨ j = 6 ∨ j = 7 ∨ j = 8) with rfl | rfl | rfl | rfl
    · rw [zUp_off (by omega), zUp_off (by omega), zUp_off (by omega), zUp_off (by omega), zCp_of0 (by omega), zCp_of0 (by omega), zCp_of0 (by omega)]
      exact (zCp_hit hi).trans (by rw [zCp_of0 (by omega), zCp_of0 (by omega), zCp_of0 (by omega), zCp_of0 (by omega), zCp_of0 (by omega)])
    · rw [zUp_off (by omega), zUp_off (by omega), zUp_off (by omega), zUp_off (by omega), zCp_of0 (by omega), zCp_of0 (by omega)]
      exact (zCp_hit hi).trans (by rw [zCp_of0 (by omega), zCp_of0 (by omega), zCp_of0 (by omega), zCp_of0 (by omega), zCp_of0 (by omega), zCp_of0 (by omega)])
    · rw [zUp_off (by omega), zUp_off (by omega), zUp_off (by omega), zUp_off (by omega), zCp_of0 (by omega)]
      exact (zCp_hit hi).trans (by rw [zCp_of0 (by omega), zCp_of0 (by omega), zCp_of0 (by omega), zCp_of0 (by omega), zCp_of0 (by omega), zCp_of0 (by omega), zCp_of0 (by omega)])
    · rw [zUp_off (by omega), zUp_off (by omega), zUp_off (by omega), zUp_off (by omega)]
      exact (zCp_hit hi).trans (by rw [zCp_of0 (by omega), zCp_of0 (by omega), zCp_of0 (by omega), zCp_of0 (by omega), zCp_of0 (by omega), zCp_of0 (by omega), zCp_of0 (by omega), zCp_of0 (by omega)])
  · intro i hi
    rcases (by omega : i = 0 ∨ i = 1 ∨ i = 2 ∨ i = 3) with rfl | rfl | rfl | rfl <;> simp [zUp_at, zCp]
  · intro j i hj hi
    rcases (by omega : j = 0 ∨ j = 1 ∨ j = 2 ∨ j = 3 ∨ j = 4) with rfl | rfl | rfl | rfl | rfl
    · rw [zUp_off (by omega), zUp_off (by omega), zUp_off (by omega), zUp_off (by omega), zCp_of0 (by omega), zCp_of0 (by omega), zCp_of0 (by omega), zCp_of0 (by omega), zCp_of0 (by omega), zCp_of0 (by omega), zCp_of0 (by omega), zCp_of0 (by omega)]
      exact (zCp_hit hi)
    · rw [zUp_off (by omega), zUp_off (by omega), zUp_off (by omega), zUp_off (by omega), zCp_of0 (by omega), zCp_of0 (by omega), zCp_of0 (by omega), zCp_of0 (by omega), zCp_of0 (by omega), zCp_of0 (by omega), zCp_of0 (by omega)]
      exact (zCp_hit hi).trans (by rw [zCp_of0 (by omega)])
    · rw [zUp_off (by omega), zUp_off (by omega), zUp_off (by omega), zUp_off (by omega), zCp_of0 (by omega), zCp_of0 (by omega), zCp_of0 (by omega), zCp_of0 (by omega), zCp_of0 (by omega), zCp_of0 (by omega)]
      exact (zCp_hit hi).trans (by rw [zCp_of0 (by omega), zCp_of0 (by omega)])
    · rw [zUp_off (by omega), zUp_off (by omega), zUp_off (by omega), zUp_off (by omega), zCp_of0 (by omega), zCp_of0 (by omega), zCp_of0 (by omega), zCp_of0 (by omega), zCp_of0 (by omega)]
      exact (zCp_hit hi).trans (by rw [zCp_of0 (by omega), zCp_of0 (by omega), zCp_of0 (by omega)])
    · rw [zUp_off (by omega), zUp_off (by omega), zUp_off (by omega), zUp_off (by omega), zCp_of0 (by omega), zCp_of0 (by omega), zCp_of0 (by omega), zCp_of0 (by omega)]
      exact (zCp_hit hi).trans (by rw [zCp_of0 (by omega), zCp_of0 (by omega), zCp_of0 (by omega), zCp_of0 (by omega)])
theorem k_become_31 {M : Nat} {s : zMem} {T : zT} (h : rC 9 s T) (hb : tBd M T) : ∃ S, f_X5_becomeAs 31 9 s = some ((), S) ∧ rC 31 S T ∧ (∀ j i, j < 5 → i < 6 → S (31 + (j + 1)) i = s (9 + (j + 1)) i) := by
  have z0 : zix 0 = 0 := rfl
  have z6 : zix 6 = 6 := rfl
  have z10 : zix 10 = 10 := rfl
  unfold f_X5_becomeAs
  simp only [gd_t (c := zcpOk 0 0 6 6 6) rfl, gd_t (c := zcpOk 0 0 10 10 10) rfl, nm_eq, z0, z6, z10]
  refine ⟨_, rfl, h.cp2 hb ?_ ?_ ?_⟩
  rotate_left
  · intro j i hj hj2 hi
    rcases (by omega : j = 5 ∨ j = 6 ∨ j = 7 ∨ j = 8) with rfl | rfl | rfl | rfl
    · rw [zUp_off (by omega), zUp_off (by omega), zUp_off (by omega), zUp_off (by omega), zCp_of0 (by omega), zCp_of0 (by omega), zCp_of0 (by omega)]
      exact (zCp_hit hi).trans (by rw [zCp_of0 (by omega), zCp_of0 (by omega), zCp_of0 (by omega), zCp_of0 (by omega), zCp_of0 (by omega)])
    · rw [zUp_off (by omega), zUp_off (by omega), zUp_off (by omega), zUp_off (by omega), zCp_of0 (by omega), zCp_of0 (by omega)]
      exact (zCp_hit hi).trans (by rw [zCp_of0 (by omega), zCp_of0 (by omega), zCp_of0 (by omega), zCp_of0 (by omega), zCp_of0 (by omega), zCp_of0 (by omega)])
    · rw [zUp_off (by omega), zUp_off (by omega), zUp_off (by omega), zUp_off (by omega), zCp_of0 (by omega)]
      exact (zCp_hit hi).trans (by rw [zCp_of0 (by omega), zCp_of0 (by omega), zCp_of0 (by omega), zCp_of0 (by omega), zCp_of0 (by omega), zCp_of0 (by omega), zCp_of0 (by omega)])
    · rw [zUp_off (by omega), zUp_off (by omega), zUp_off (by omega), zUp_off (by omega)]
      exact (zCp_hit hi).trans (by rw [zCp_of0 (by omega), zCp_of0 (by omega), zCp_of0 (by omega), zCp_of0 (by omega), zCp_of0 (by omega), zCp_of0 (by omega), zCp_of0 (by omega), zCp_of0 (by omega)])
  · intro i hi
    rcases (by omega : i = 0 ∨ i = 1 ∨ i = 2 ∨ i = 3) with rfl | rfl | rfl | rfl <;> simp [zUp_at, zCp]
  · intro j i hj hi
    rcases (by omega : j = 0 ∨ j = 1 ∨ j = 2 ∨ j = 3 ∨ j = 4) with rfl | rfl | rfl | rfl | rfl
    · rw [zUp_off (by omega), zUp_off (by omega), zUp_off (by omega), zUp_off (by omega), zCp_of0 (by omega), zCp_of0 (by omega), zCp_of0 (by omega), zCp_of0 (by omega), zCp_of0 (by omega), zCp_of0 (by omega), zCp_of0 (by omega), zCp_of0 (by omega)]
      exact (zCp_hit hi)
    · rw [zUp_off (by omega), zUp_off (by omega), zUp_off (by omega), zUp_off (by omega), zCp_of0 (by omega), zCp_of0 (by omega), zCp_of0 (by omega), zCp_of0 (by omega), zCp_of0 (by omega), zCp_of0 (by omega), zCp_of0 (by omega)]
      exact (zCp_hit hi).trans (by rw [zCp_of0 (by omega)])
    · rw [zUp_off (by omega), zUp_off (by omega), zUp_off (by omega), zUp_off (by omega), zCp_of0 (by omega), zCp_of0 (by omega), zCp_of0 (by omega), zCp_of0 (by omega), zCp_of0 (by omega), zCp_of0 (by omega)]
      exact (zCp_hit hi).trans (by rw [zCp_of0 (by omega), zCp_of0 (by omega)])
    · rw [zUp_off (by omega), zUp_off (by omega), zUp_off (by omega), zUp_off (by omega), zCp_of0 (by omega), zCp_of0 (by omega), zCp_of0 (by omega), zCp_of0 (by omega), zCp_of0 (by omega)]
      exact (zCp_hit hi).trans (by rw [zCp_of0 (by omega), zCp_of0 (by omega), zCp_of0 (by omega)])
    · rw [zUp_off (by omega), zUp_off (by omega), zUp_off (by omega), zUp_off (by omega), zCp_of0 (by omega), zCp_of0 (by omega), zCp_of0 (by omega), zCp_of0 (by omega)]
      exact (zCp_hit hi).trans (by rw [zCp_of0 (by omega), zCp_of0 (by omega), zCp_of0 (by omega), zCp_of0 (by omega)])
theorem k_become_9 {M : Nat} {s : zMem} {T : zT} (h : rC 31 s T) (hb : tBd M T) : ∃ S, f_X5_becomeAs 9 31 s = some ((), S) ∧ rC 9 S T ∧ (∀ j i, j < 5 → i < 6 → S (9 + (j + 1)) i = s (31 + (j + 1)) i) := by
  have z0 : zix 0 = 0 := rfl
  have z6 : zix 6 = 6 := rfl
  have z10 : zix 10 = 10 := rfl
  unfold f_X5_becomeAs
  simp only [gd_t (c := zcpOk 0 0 6 6 6) rfl, gd_t (c := zcpOk 0 0 10 10 10) rfl, nm_eq, z0, z6, z10]
  refine ⟨_, rfl, h.cp2 hb ?_ ?_ ?_⟩
  rotate_left
  · intro j i hj hj2 hi
    rcases (by omega : j = 5 ∨ j = 6 ∨ j = 7 ∨ j = 8) with rfl | rfl | rfl | rfl
    · rw [zUp_off (by omega), zUp_off (by omega), zUp_off (by omega), zUp_off (by omega), zCp_of0 (by omega), zCp_of0 (by omega), zCp_of0 (by omega)]
      exact (zCp_hit hi).trans (by rw [zCp_of0 (by omega), zCp_of0 (by omega), zCp_of0 (by omega), zCp_of0 (by omega), zCp_of0 (by omega)])
    · rw [zUp_off (by omega), zUp_off (by omega), zUp_off (by omega), zUp_off (by omega), zCp_of0 (by omega), zCp_of0 (by omega)]
      exact (zCp_hit hi).trans (by rw [zCp_of0 (by omega), zCp_of0 (by omega), zCp_of0 (by omega), zCp_of0 (by omega), zCp_of0 (by omega), zCp_of0 (by omega)])
    · rw [zUp_off (by omega), zUp_off (by omega), zUp_off (by omega), zUp_off (by omega), zCp_of0 (by omega)]
      exact (zCp_hit hi).trans (by rw [zCp_of0 (by omega), zCp_of0 (by omega), zCp_of0 (by omega), zCp_of0 (by omega), zCp_of0 (by omega), zCp_of0 (by omega), zCp_of0 (by omega)])
    · rw [zUp_off (by omega), zUp_off (by omega), zUp_off (by omega), zUp_off (by omega)]
      exact (zCp_hit hi).trans (by rw [zCp_of0 (by omega), zCp_of0 (by omega), zCp_of0 (by omega), zCp_of0 (by omega), zCp_of0 (by omega), zCp_of0 (by omega), zCp_of0 (by omega), zCp_of0 (by omega)])
  · intro i hi
    rcases (by omega : i = 0 ∨ i = 1 ∨ i = 2 ∨ i = 3) with rfl | rfl | rfl | rfl <;> simp [zUp_at, zCp]
  · intro j i hj hi
    rcases (by omega : j = 0 ∨ j = 1 ∨ j = 2 ∨ j = 3 ∨ j = 4) with rfl | rfl | rfl | rfl | rfl
    · rw [zUp_off (by omega), zUp_off (by omega), zUp_off (by omega), zUp_off (by omega), zCp_of0 (by omega), zCp_of0 (by omega), zCp_of0 (by omega), zCp_of0 (by omega), zCp_of0 (by omega), zCp_of0 (by omega), zCp_of0 (by omega), zCp_of0 (by omega)]
      exact (zCp_hit hi)
    · rw [zUp_off (by omega), zUp_off (by omega), zUp_off (by omega), zUp_off (by omega), zCp_of0 (by omega), zCp_of0 (by omega), zCp_of0 (by omega), zCp_of0 (by omega), zCp_of0 (by omega), zCp_of0 (by omega), zCp_of0 (by omega)]
      exact (zCp_hit hi).trans (by rw [zCp_of0 (by omega)])
    · rw [zUp_off (by omega), zUp_off (by omega), zUp_off (by omega), zUp_off (by omega), zCp_of0 (by omega), zCp_of0 (by omega), zCp_of0 (by omega), zCp_of0 (by omega), zCp_of0 (by omega), zCp_of0 (by omega)]
      exact (zCp_hit hi).trans (by rw [zCp_of0 (by omega), zCp_of0 (by omega)])
    · rw [zUp_off (by omega), zUp_off (by omega), zUp_off (by omega), zUp_off (by omega), zCp_of0 (by omega), zCp_of0 (by omega), zCp_of0 (by omega), zCp_of0 (by omega), zCp_of0 (by omega)]
      exact (zCp_hit hi).trans (by rw [zCp_of0 (by omega), zCp_of0 (by omega), zCp_of0 (by omega)])
    · rw [zUp_off (by omega), zUp_off (by omega), zUp_off (by omega), zUp_off (by omega), zCp_of0 (by omega), zCp_of0 (by omega), zCp_of0 (by omega), zCp_of0 (by omega)]
      exact (zCp_hit hi).trans (by rw [zCp_of0 (by omega), zCp_of0 (by omega), zCp_of0 (by omega), zCp_of0 (by omega)])
theorem k_think {E : zEv} {K M : Nat} {s : zMem} {T : zT} (o : kOk E K M 9 s T) : ∃ S, f_X6_think s = some ((), S) ∧ kOk E K M 20 S T := by
  obtain ⟨S, e, r, _⟩ := k_become_20 o.2.1 o.2.2.1
  have hg : f_X6_think s = some ((), S) := by
    unfold f_X6_think
    rw [e, bd_s]
  exact ⟨S, hg, by omega, r, o.2.2.1, o.2.2.2.1, o.2.2.2.2.of (fun q k hq => fr_X6_think q k (by omega) rfl _ S hg)⟩
def nightsT (E : zEv) : Nat → Nat → zT → Nat × zT
  | 0, f, T => (f, T)
  | n + 1, f, T => nightsT E n (f ||| (nightT E T).1) (nightT E T).2
theorem tBd.mono {M N : Nat} {T : zT} (h : tBd M T) (h1 : M ≤ N) (h2 : N ≤ 100000) : tBd N T := ⟨h.1, h.2.1, by have := h.2.2.1; omega, h.2.2.2.1, h2, h.2.2.2.2.2.1, h.2.2.2.2.2.2⟩
theorem k_nightsL {E : zEv} {K N w m : Nat} (hm : m < 2 ^ 31) : ∀ (n i f M : Nat) (s : zMem) (T : zT), kOk E K M w s T → M + (m - i) = N → N ≤ 100000 → i ≤ m → m - i < n → ∃ S, f_X5_passNights_4 w n (nI m) (nI f) (nI i) s = some (nI (nightsT E (m - i) f T).1, S) ∧ kOk E K N w S (nightsT E (m - i) f T).2 := by
  intro n
  induction n with
  | zero => intro i f M s T _ _ _ _ h; omega
  | succ n ih =>
    intro i f M s T o hM hN hi hn
    rw [f_X5_passNights_4]
    by_cases q : m ≤ i
    · rw [if_pos (nI_le q (by omega)), show m - i = 0 by omega]
      rw [show M = N by omega] at o
      exact ⟨s, rfl, o⟩
    · rw [if_neg (nI_ge (by omega) (by omega))]
      obtain ⟨S1, e1, o1⟩ := k_night o (by omega)
      rw [e1, bd_s, nm_eq, nm_eq, nI_or, nI_1, show m - i = (m - (i + 1)) + 1 by omega]
      exact ih (i + 1) _ (M + 1) S1 _ o1 (by omega) hN (by omega) (by omega)
theorem k_nights {E : zEv} {K M w m : Nat} {s : zMem} {T : zT} (o : kOk E K M w s T) (hm : m ≤ 100) (hM : M ≤ 2000) : ∃ S, f_X5_passNights w (nI m) s = some (nI (nightsT E m 0 T).1, S) ∧ kOk E K (M + m) w S (nightsT E m 0 T).2 := by
  unfold f_X5_passNights
  exact k_nightsL (by omega) zN 0 0 M s T o rfl (by omega) (by omega) (by unfold zN; omega)
theorem m_goesL {E : zEv} {K N m : Nat} (hm : m < 2 ^ 31) : ∀ (n i f M : Nat) (s : zMem) (T : zT), mOk E K M s T → M + (m - i) = N → N ≤ 100000 → i ≤ m → m - i < n → ∃ S, f_X7_goes_4 n (nI m) (nI f) (nI i) s = some (nI (nightsT E (m - i) f T).1, S) ∧ mOk E K N S (nightsT E (m - i) f T).2 := by
  intro n
  induction n with
  | zero => intro i f M s T _ _ _ _ h; omega
  | succ n ih =>
    intro i f M s T o hM hN hi hn
    rw [f_X7_goes_4]
    by_cases q : m ≤ i
    · rw [if_pos (nI_le q (by omega)), show m - i = 0 by omega]
      rw [show M = N by omega] at o
      exact ⟨s, rfl, o⟩
    · rw [if_neg (nI_ge (by omega) (by omega))]
      obtain ⟨S1, e1, o1⟩ := m_night o (by omega)
      rw [e1, bd_s, nm_eq, nm_eq, nI_or, nI_1, show m - i = (m - (i + 1)) + 1 by omega]
      exact ih (i + 1) _ (M + 1) S1 _ o1 (by omega) hN (by omega) (by omega)
theorem m_goes {E : zEv} {K M m : Nat} {s : zMem} {T : zT} (o : mOk E K M s T) (hm : m ≤ 100) (hM : M ≤ 2000) : ∃ S, f_X7_goes (nI m) s = some (nI (nightsT E m 0 T).1, S) ∧ mOk E K (M + m) S (nightsT E m 0 T).2 := by
  unfold f_X7_goes
  exact m_goesL (by omega) zN 0 0 M s T o rfl (by omega) (by omega) (by unfold zN; omega)

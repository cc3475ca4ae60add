-- sums, what a text says, growing, cooling, burning
def cwT (T : zT) (j h : Nat) : Nat → Nat := tS (fun k => if T j k = h then T 7 k else 0)
def owesT (T : zT) (h : Nat) : Nat := cwT T 6 h (T 9 1)
def owedT (T : zT) (h : Nat) : Nat := cwT T 5 h (T 9 1)
def heatT (T : zT) : Nat := tS (T 0) (T 9 0)
def fromT (T : zT) (h : Nat) : Nat := tS (fun k => if T 5 k = h then 1 else 0) (T 9 1)
def clampN (x : Int32) : Nat := if x < 0 then 0 else if 99 < x then 99 else zix x
abbrev zEv : Type := Nat → Nat → Int32 → Int32 → Int32 → Int32 → Int32 → Int32 → Int32
def sayT (E : zEv) (p : Nat) (T : zT) (h c : Nat) : Nat := clampN (E (T 9 3) p (nI (T 0 h)) (nI (T 1 h)) (nI (T 9 2)) (nI c) (nI (owesT T h)) (nI (T 4 h)))
theorem clampN_le (x : Int32) : clampN x ≤ 99 := by
  unfold clampN
  split
  · omega
  · rename_i h1
    split
    · omega
    · rename_i h2
      have h3 : x ≤ 99 := Int32.not_lt.mp h2
      obtain ⟨j, hj, rfl⟩ := nI_of2 (M := 99) (n := 99) rfl h1 h3
      rw [zix_nI (by omega)]
      exact hj
theorem clamp_max (x : Int32) : zmax 0 (zmin 99 x) = nI (clampN x) := by
  unfold zmax zmin clampN
  by_cases h1 : x < 0
  · have h2 : x < 99 := by
      rw [Int32.lt_iff_toInt_lt] at h1 ⊢
      exact Int.lt_trans h1 (by decide)
    rw [if_pos h1, if_pos h2, if_neg (by rw [Int32.lt_iff_toInt_lt] at h1 ⊢; have e : (0 : Int32).toInt = 0 := rfl; omega)]
    rfl
  · rw [if_neg h1]
    by_cases h2 : 99 < x
    · have h3 : ¬ x < 99 := by
        rw [Int32.lt_iff_toInt_lt] at h2 ⊢
        omega
      rw [if_pos h2, if_neg h3, if_pos (by decide)]
      rfl
    · rw [if_neg h2]
      obtain ⟨j, hj, rfl⟩ := nI_of2 (M := 99) (n := 99) rfl h1 (Int32.not_lt.mp h2)
      rw [zix_nI (by omega)]
      have e99 : (99 : Int32) = nI 99 := rfl
      have e0 : (0 : Int32) = nI 0 := rfl
      rw [e99, e0]
      by_cases h3 : j < 99
      · rw [if_pos ((nI_ltI (by omega) (by omega)).mpr h3)]
        by_cases h4 : 0 < j
        · rw [if_pos ((nI_ltI (by omega) (by omega)).mpr h4)]
        · rw [show j = 0 by omega]; simp
      · rw [if_neg (fun q => h3 ((nI_ltI (by omega) (by omega)).mp q)), show j = 99 by omega, if_pos ((nI_ltI (by omega) (by omega)).mpr (by omega))]
theorem clamp_within (x : Int32) : (if (0 : Int32) ≤ x then (if x ≤ 99 then x else 99) else 0) = nI (clampN x) := by
  unfold clampN
  by_cases h1 : x < 0
  · rw [if_pos h1, if_neg (Int32.not_le.mpr h1)]; rfl
  · rw [if_neg h1, if_pos (Int32.not_lt.mp h1)]
    by_cases h2 : 99 < x
    · rw [if_pos h2, if_neg (Int32.not_le.mpr h2)]; rfl
    · rw [if_neg h2, if_pos (Int32.not_lt.mp h2)]
      obtain ⟨j, hj, rfl⟩ := nI_of2 (M := 99) (n := 99) rfl h1 (Int32.not_lt.mp h2)
      rw [zix_nI (by omega)]
theorem within_nI {a : Nat} (h : a < 2 ^ 31) : (if (0 : Int32) ≤ nI a then (if nI a ≤ 9999 then nI a else 9999) else 0) = nI (min 9999 a) := by
  have e : (9999 : Int32) = nI 9999 := rfl
  rw [if_pos (nI_pos' h), e]
  by_cases h2 : a ≤ 9999
  · rw [if_pos ((nI_leI h (by omega)).mpr h2), Nat.min_eq_right h2]
  · rw [if_neg (fun q => h2 ((nI_leI h (by omega)).mp q)), Nat.min_eq_left (by omega)]
/-- what is read of the texts, on the class's side -/
def zEC (E : zEv) (K : Nat) (s : zMem) : Prop := ∀ (t p a : Nat) (S : zMem), t < K → p < 3 → a ≠ 4 → (∀ q k, (q = 1 ∨ q = 2 ∨ q = 3) → S q k = s q k) → ∃ S', f_X4_valueOf a (nI t) (nI p) S = some (E t p (S a 0) (S a 1) (S a 2) (S a 3) (S a 4) (S a 5), S')
/-- and on the model's -/
def zEM (E : zEv) (K : Nat) (s : zMem) : Prop := ∀ (t p : Nat) (S : zMem), t < K → p < 3 → S 47 15 = nI t → (∀ q k, (q = 56 ∨ q = 57) → S q k = s q k) → ∃ S', f_X7_says (nI p) S = some (E t p (S 67 0) (S 67 1) (S 67 2) (S 67 3) (S 67 4) (S 67 5), S')
-- sums over the loans and the huts: the class
theorem k_cw {w a1 N j h : Nat} {T : zT} {s : zMem} (e : s w 10 = nI N) (hN : N ≤ 10) (hh : h < 2 ^ 31) (ha : ∀ k, k < N → s a1 k = nI (T j k) ∧ T j k < 2 ^ 31) (hc : ∀ k, k < N → s (w + 8) k = nI (T 7 k)) :
    ∀ (n i : Nat), i ≤ N → N - i < n → f_X5_coalsWhere_5 w a1 n (nI h) (nI (cwT T j h i)) (nI i) s = some (nI (cwT T j h N), s) := by
  intro n
  induction n with
  | zero => intro i h1 h2; omega
  | succ n ih =>
    intro i h1 h2
    rw [f_X5_coalsWhere_5, e]
    by_cases hi : N ≤ i
    · rw [if_pos (nI_le hi (by omega)), show i = N by omega]
    · have hi2 : i < N := by omega
      rw [if_neg (nI_ge hi2 (by omega)), gd_t (zib_nI (by omega) (by decide)), zix_nI (by omega), (ha i hi2).1]
      by_cases hq : T j i = h
      · rw [if_pos (by rw [hq]), gd_t (zib_nI (by omega) (by decide)), hc i hi2, nm_eq, nm_eq, nI_add, nI_1]
        have := ih (i + 1) (by omega) (by omega)
        rw [show cwT T j h (i + 1) = cwT T j h i + T 7 i by simp [cwT, tS, hq]] at this
        exact this
      · rw [if_neg (fun q => hq ((nI_eq (ha i hi2).2 hh).mp q)), nm_eq, nI_1]
        have := ih (i + 1) (by omega) (by omega)
        rw [show cwT T j h (i + 1) = cwT T j h i by simp [cwT, tS, hq]] at this
        exact this
theorem k_owes {w M h : Nat} {T : zT} {s : zMem} (hr : rC w s T) (hb : tBd M T) (hh : h < 2 ^ 31) : f_X5_owes w (nI h) s = some (nI (owesT T h), s) := by
  unfold f_X5_owes f_X5_coalsWhere
  have := k_cw (a1 := w + 7) (j := 6) hr.c0.2.1 hb.2.1 hh (fun k hk => ⟨(hr.cl hk).2.1, by have := (hb.2.2.2.2.2.2 k hk).2.1; have := hb.1; omega⟩) (fun k hk => (hr.cl hk).2.2.1) zN 0 (by omega) (by have := hb.2.1; unfold zN; omega)
  rw [show (0 : Int32) = nI 0 from rfl]
  rw [show nI (cwT T 6 h 0) = nI 0 from rfl] at this
  rw [this, bd_s]
  rfl
theorem k_isOwed {w M h : Nat} {T : zT} {s : zMem} (hr : rC w s T) (hb : tBd M T) (hh : h < 2 ^ 31) : f_X5_isOwed w (nI h) s = some (nI (owedT T h), s) := by
  unfold f_X5_isOwed f_X5_coalsWhere
  have := k_cw (a1 := w + 6) (j := 5) hr.c0.2.1 hb.2.1 hh (fun k hk => ⟨(hr.cl hk).1, by have := (hb.2.2.2.2.2.2 k hk).1; have := hb.1; omega⟩) (fun k hk => (hr.cl hk).2.2.1) zN 0 (by omega) (by have := hb.2.1; unfold zN; omega)
  rw [show (0 : Int32) = nI 0 from rfl]
  rw [show nI (cwT T 5 h 0) = nI 0 from rfl] at this
  rw [this, bd_s]
  rfl
-- the model
theorem m_cw {j h N : Nat} {T : zT} {s : zMem} (e : s 47 8 = nI N) (hN : N ≤ 10) (hh : h < 2 ^ 31) (ha : ∀ k, k < N → s 52 k = nI (T j k) ∧ T j k < 2 ^ 31) (hc : ∀ k, k < N → s 53 k = nI (T 7 k)) :
    ∀ (n i : Nat), i ≤ N → N - i < n → f_X7_owedBy_4 n (nI h) (nI (cwT T j h i)) (nI i) s = some (nI (cwT T j h N), s) := by
  intro n
  induction n with
  | zero => intro i h1 h2; omega
  | succ n ih =>
    intro i h1 h2
    rw [f_X7_owedBy_4, e]
    by_cases hi : N ≤ i
    · rw [if_pos (nI_le hi (by omega)), show i = N by omega]
    · have hi2 : i < N := by omega
      rw [if_neg (nI_ge hi2 (by omega)), gd_t (zib_nI (by omega) (by decide)), zix_nI (by omega), (ha i hi2).1]
      have := ih (i + 1) (by omega) (by omega)
      by_cases hq : T j i = h
      · rw [if_pos (by rw [hq]), gd_t (zib_nI (by omega) (by decide)), hc i hi2, nm_eq, nm_eq, nI_add, nI_1]
        rw [show cwT T j h (i + 1) = cwT T j h i + T 7 i by simp [cwT, tS, hq]] at this
        exact this
      · rw [if_neg (fun q => hq ((nI_eq (ha i hi2).2 hh).mp q)), nm_eq, nm_eq, nI_1, show (0 : Int32) = nI 0 from rfl, nI_add]
        rw [show cwT T j h (i + 1) = cwT T j h i by simp [cwT, tS, hq]] at this
        exact this
theorem m_owedBy {M h : Nat} {T : zT} {s : zMem} (hr : rM s T) (hb : tBd M T) (hh : h < 2 ^ 31) : f_X7_owedBy (nI h) s = some (nI (owesT T h), s) := by
  unfold f_X7_owedBy
  have := m_cw (j := 6) hr.c0.2.1 hb.2.1 hh (fun k hk => ⟨(hr.cl hk).2.1, by have := (hb.2.2.2.2.2.2 k hk).2.1; have := hb.1; omega⟩) (fun k hk => (hr.cl hk).2.2.1) zN 0 (by omega) (by have := hb.2.1; unfold zN; omega)
  rw [show (0 : Int32) = nI 0 from rfl]
  exact this
-- what a part of the law says
theorem k_says {E : zEv} {K w M p h c : Nat} {T : zT} {s : zMem} (hw : 5 ≤ w) (hr : rC w s T) (hb : tBd M T) (hk : T 9 3 < K) (hE : zEC E K s) (hp : p < 3) (hh : h < T 9 0) : ∃ S, f_X5_says w (nI p) (nI h) (nI c) s = some (nI (sayT E p T h c), S) ∧ ∀ a k, a ≠ 4 → a ≠ w + 10 → S a k = s a k := by
  have h6 : h < 6 := Nat.lt_of_lt_of_le hh hb.1
  have hz : zib (nI h) 6 = true := zib_nI h6 (by decide)
  have hx : zix (nI h) = h := zix_nI (by omega)
  obtain ⟨d0, d1, d2, d3⟩ := hr.c0
  obtain ⟨c0, c1, c2, c3, c4⟩ := hr.ch hh
  have key : ∀ S : zMem, (∀ a k, a ≠ w + 10 → S a k = s a k) → rC w S T := fun S hS => hr.of (fun a k q => hS a k (by omega))
  have hgo : ∃ S, f_X5_says w (nI p) (nI h) (nI c) s = some (nI (sayT E p T h c), S) := by
    unfold f_X5_says
    rw [gd_t hz, gd_t (c := zib 0 6) rfl, nm_eq, gd_t hz, gd_t (c := zib 1 6) rfl, nm_eq, gd_t (c := zib 2 6) rfl, nm_eq, gd_t (c := zib 3 6) rfl, nm_eq]
    have e4 : ∀ a k, a ≠ w + 10 → (zUp (zUp (zUp (zUp s (w + 10) (zix 0) (s (w + 1) (zix (nI h)))) (w + 10) (zix 1) ((zUp s (w + 10) (zix 0) (s (w + 1) (zix (nI h)))) (w + 2) (zix (nI h)))) (w + 10) (zix 2) ((zUp (zUp s (w + 10) (zix 0) (s (w + 1) (zix (nI h)))) (w + 10) (zix 1) ((zUp s (w + 10) (zix 0) (s (w + 1) (zix (nI h)))) (w + 2) (zix (nI h)))) w 11)) (w + 10) (zix 3) (nI c)) a k = s a k := by
      intro a k ha
      rw [zUp_off (Or.inl ha), zUp_off (Or.inl ha), zUp_off (Or.inl ha), zUp_off (Or.inl ha)]
    generalize hS4 : zUp (zUp (zUp (zUp s (w + 10) (zix 0) (s (w + 1) (zix (nI h)))) (w + 10) (zix 1) ((zUp s (w + 10) (zix 0) (s (w + 1) (zix (nI h)))) (w + 2) (zix (nI h)))) (w + 10) (zix 2) ((zUp (zUp s (w + 10) (zix 0) (s (w + 1) (zix (nI h)))) (w + 10) (zix 1) ((zUp s (w + 10) (zix 0) (s (w + 1) (zix (nI h)))) (w + 2) (zix (nI h)))) w 11)) (w + 10) (zix 3) (nI c) = S4 at e4 ⊢
    rw [k_owes (key S4 e4) hb (by omega), bd_s, gd_t (c := zib 4 6) rfl, nm_eq, gd_t hz, gd_t (c := zib 5 6) rfl, nm_eq, hx]
    have a0 : S4 (w + 10) 0 = nI (T 0 h) := by rw [← hS4, hx]; simp [zUp_at, zix, c0]
    have a1 : S4 (w + 10) 1 = nI (T 1 h) := by rw [← hS4, hx]; simp [zUp_at, zix, c1]
    have a2 : S4 (w + 10) 2 = nI (T 9 2) := by rw [← hS4, hx]; simp [zUp_at, zix, d2]
    have a3 : S4 (w + 10) 3 = nI c := by rw [← hS4, hx]; simp [zUp_at, zix]
    have a5 : S4 (w + 5) h = nI (T 4 h) := by rw [e4 _ _ (by omega), c4]
    have a12 : S4 w 12 = nI (T 9 3) := by rw [e4 _ _ (by omega), d3]
    have b5 : zUp S4 (w + 10) (zix 4) (nI (owesT T h)) (w + 5) h = nI (T 4 h) := by rw [zUp_off (by omega), a5]
    rw [b5]
    have b12 : zUp (zUp S4 (w + 10) (zix 4) (nI (owesT T h))) (w + 10) (zix 5) (nI (T 4 h)) w 12 = nI (T 9 3) := by rw [zUp_off (by omega), zUp_off (by omega), a12]
    rw [b12]
    obtain ⟨S', hS'⟩ := hE (T 9 3) p (w + 10) (zUp (zUp S4 (w + 10) (zix 4) (nI (owesT T h))) (w + 10) (zix 5) (nI (T 4 h))) hk hp (by omega) (fun q k hq => by rw [zUp_off (by omega), zUp_off (by omega), e4 _ _ (by omega)])
    rw [hS', bd_s, clamp_max]
    refine ⟨S', ?_⟩
    congr 3
    unfold sayT
    have z4 : zix 4 = 4 := rfl
    have z5 : zix 5 = 5 := rfl
    rw [z4, z5]
    congr 2
    · rw [zUp_off (by omega), zUp_off (by omega), a0]
    · rw [zUp_off (by omega), zUp_off (by omega), a1]
    · rw [zUp_off (by omega), zUp_off (by omega), a2]
    · rw [zUp_off (by omega), zUp_off (by omega), a3]
    · rw [zUp_off (by omega), zUp_hit]
    · rw [zUp_hit]
  obtain ⟨S, hS⟩ := hgo
  exact ⟨S, hS, fun a k h4 h10 => fr_X5_says a k (by omega) rfl _ S hS⟩

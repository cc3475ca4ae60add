-- the model keeps its rows and lays them back
def kS1 (i : Nat) (s : zMem) : zMem := fun a q => if a = 68 ∧ i ≤ q ∧ q < 18 then s 50 q else s a q
theorem m_keeps1 {c : zMem → Option (Unit × zMem)} : ∀ (n i : Nat) (s : zMem), i ≤ 18 → 18 - i < n → f_X7_keeps_2 c n (nI i) s = c (kS1 i s) := by
  intro n
  induction n with
  | zero => intro i s _ h; omega
  | succ n ih =>
    intro i s hi hn
    rw [f_X7_keeps_2, show (18 : Int32) = nI 18 from rfl]
    by_cases q : 18 ≤ i
    · rw [if_pos (nI_le q (by omega))]
      congr 1
      funext a k
      unfold kS1
      rw [if_neg (by omega)]
    · rw [if_neg (nI_ge (by omega) (by omega)), gd_t (zib_nI (by omega) (by decide)), gd_t (zib_nI (by omega) (by decide)), zix_nI (by omega), nm_eq, nm_eq, nI_1, ih (i + 1) _ (by omega) (by omega)]
      congr 1
      funext a k
      unfold kS1
      by_cases c1 : a = 68
      · subst c1
        by_cases c2 : k = i
        · subst c2
          rw [if_neg (by omega), if_pos (by omega), zUp_hit]
        · by_cases c3 : i + 1 ≤ k ∧ k < 18
          · rw [if_pos (by omega), if_pos (by omega), zUp_off (by omega)]
          · rw [if_neg (by omega), if_neg (by omega), zUp_off (by omega)]
      · rw [if_neg (by omega), if_neg (by omega), zUp_off (by omega)]
def kS2 (i : Nat) (s : zMem) : zMem := fun a q => if a = 68 ∧ 18 + i ≤ q ∧ q < 28 then s 51 (q - 18) else if a = 68 ∧ 28 + i ≤ q ∧ q < 38 then s 52 (q - 28) else if a = 68 ∧ 38 + i ≤ q ∧ q < 48 then s 53 (q - 38) else if a = 68 ∧ 48 + i ≤ q ∧ q < 58 then s 54 (q - 48) else s a q
theorem m_keeps2 {c : zMem → Option (Unit × zMem)} : ∀ (n i : Nat) (s : zMem), i ≤ 10 → 10 - i < n → ∃ S, f_X7_keeps_28 c n (nI i) s = c S ∧ (∀ a k, a ≠ 68 → S a k = s a k) ∧ (∀ k, k < 18 ∨ 58 ≤ k → S 68 k = s 68 k) ∧ (∀ k, k < 10 → (k < i → S 68 (18 + k) = s 68 (18 + k) ∧ S 68 (28 + k) = s 68 (28 + k) ∧ S 68 (38 + k) = s 68 (38 + k) ∧ S 68 (48 + k) = s 68 (48 + k)) ∧ (i ≤ k → S 68 (18 + k) = s 51 k ∧ S 68 (28 + k) = s 52 k ∧ S 68 (38 + k) = s 53 k ∧ S 68 (48 + k) = s 54 k)) := by
  intro n
  induction n with
  | zero => intro i s _ h; omega
  | succ n ih =>
    intro i s hi hn
    rw [f_X7_keeps_28, show (10 : Int32) = nI 10 from rfl]
    by_cases q : 10 ≤ i
    · rw [if_pos (nI_le q (by omega))]
      exact ⟨s, rfl, fun _ _ _ => rfl, fun _ _ => rfl, fun k hk => ⟨fun _ => ⟨rfl, rfl, rfl, rfl⟩, fun _ => by omega⟩⟩
    · have x0 : zix (nI i) = i := zix_nI (by omega)
      have x1 : zix (nI (18 + i)) = 18 + i := zix_nI (by omega)
      have x2 : zix (nI (28 + i)) = 28 + i := zix_nI (by omega)
      have x3 : zix (nI (38 + i)) = 38 + i := zix_nI (by omega)
      have x4 : zix (nI (48 + i)) = 48 + i := zix_nI (by omega)
      have g0 : zib (nI i) 10 = true := zib_nI (by omega) (by decide)
      have g1 : zib (nI (18 + i)) 60 = true := zib_nI (by omega) (by decide)
      have g2 : zib (nI (28 + i)) 60 = true := zib_nI (by omega) (by decide)
      have g3 : zib (nI (38 + i)) 60 = true := zib_nI (by omega) (by decide)
      have g4 : zib (nI (48 + i)) 60 = true := zib_nI (by omega) (by decide)
      have a1 : (18 : Int32) + nI i = nI (18 + i) := nI_add 18 i
      have a2 : (28 : Int32) + nI i = nI (28 + i) := nI_add 28 i
      have a3 : (38 : Int32) + nI i = nI (38 + i) := nI_add 38 i
      have a4 : (48 : Int32) + nI i = nI (48 + i) := nI_add 48 i
      rw [if_neg (nI_ge (by omega) (by omega))]
      simp only [a1, a2, a3, a4, gd_t g0, gd_t g1, gd_t g2, gd_t g3, gd_t g4, nm_eq, x0, x1, x2, x3, x4, nI_1]
      obtain ⟨S, e, f0, f1, f2⟩ := ih (i + 1) (zUp (zUp (zUp (zUp s 68 (18 + i) (s 51 i)) 68 (28 + i) (zUp s 68 (18 + i) (s 51 i) 52 i)) 68 (38 + i) (zUp (zUp s 68 (18 + i) (s 51 i)) 68 (28 + i) (zUp s 68 (18 + i) (s 51 i) 52 i) 53 i)) 68 (48 + i) (zUp (zUp (zUp s 68 (18 + i) (s 51 i)) 68 (28 + i) (zUp s 68 (18 + i) (s 51 i) 52 i)) 68 (38 + i) (zUp (zUp s 68 (18 + i) (s 51 i)) 68 (28 + i) (zUp s 68 (18 + i) (s 51 i) 52 i) 53 i) 54 i)) (by omega) (by omega)
      have e2 : zUp s 68 (18 + i) (s 51 i) 52 i = s 52 i := zUp_off (by omega)
      rw [e2] at e f0 f1 f2 ⊢
      have e3 : zUp (zUp s 68 (18 + i) (s 51 i)) 68 (28 + i) (s 52 i) 53 i = s 53 i := by rw [zUp_off (by omega), zUp_off (by omega)]
      rw [e3] at e f0 f1 f2 ⊢
      have e4 : zUp (zUp (zUp s 68 (18 + i) (s 51 i)) 68 (28 + i) (s 52 i)) 68 (38 + i) (s 53 i) 54 i = s 54 i := by rw [zUp_off (by omega), zUp_off (by omega), zUp_off (by omega)]
      rw [e4] at e f0 f1 f2 ⊢
      have off : ∀ a k, (a ≠ 68 ∨ (k ≠ 18 + i ∧ k ≠ 28 + i ∧ k ≠ 38 + i ∧ k ≠ 48 + i)) → zUp (zUp (zUp (zUp s 68 (18 + i) (s 51 i)) 68 (28 + i) (s 52 i)) 68 (38 + i) (s 53 i)) 68 (48 + i) (s 54 i) a k = s a k := fun a k h => by rw [zUp_off (by omega), zUp_off (by omega), zUp_off (by omega), zUp_off (by omega)]
      refine ⟨S, e, fun a k h => (f0 a k h).trans (off a k (Or.inl h)), fun k h => (f1 k h).trans (off 68 k (by omega)), fun k hk => ⟨fun hki => ?_, fun hki => ?_⟩⟩
      · obtain ⟨t1, t2, t3, t4⟩ := (f2 k hk).1 (by omega)
        rw [t1, t2, t3, t4]
        exact ⟨off _ _ (by omega), off _ _ (by omega), off _ _ (by omega), off _ _ (by omega)⟩
      · by_cases c : k = i
        · subst c
          obtain ⟨t1, t2, t3, t4⟩ := (f2 k hk).1 (by omega)
          rw [t1, t2, t3, t4]
          refine ⟨?_, ?_, ?_, ?_⟩
          · rw [zUp_off (by omega), zUp_off (by omega), zUp_off (by omega), zUp_hit]
          · rw [zUp_off (by omega), zUp_off (by omega), zUp_hit]
          · rw [zUp_off (by omega), zUp_hit]
          · rw [zUp_hit]
        · obtain ⟨t1, t2, t3, t4⟩ := (f2 k hk).2 (by omega)
          rw [t1, t2, t3, t4]
          exact ⟨off _ _ (by omega), off _ _ (by omega), off _ _ (by omega), off _ _ (by omega)⟩
/-- S holds the rows of s beside -/
def kp (s S : zMem) : Prop := (∀ k, k < 18 → S 68 k = s 50 k) ∧ (∀ k, k < 10 → S 68 (18 + k) = s 51 k ∧ S 68 (28 + k) = s 52 k ∧ S 68 (38 + k) = s 53 k ∧ S 68 (48 + k) = s 54 k) ∧ S 68 58 = s 47 8 ∧ S 68 59 = s 47 9
theorem m_keeps (s : zMem) : ∃ S, f_X7_keeps s = some ((), S) ∧ (∀ a k, a ≠ 68 → S a k = s a k) ∧ kp s S := by
  unfold f_X7_keeps
  have e1 := m_keeps1 (c := fun s5 => f_X7_keeps_28 (fun s13 => gd (zib 58 60) <| nm (zUp s13 68 (zix 58) (s13 47 8)) fun s14 => gd (zib 59 60) <| nm (zUp s14 68 (zix 59) (s14 47 9)) fun s15 => some ((), s15)) zN 0 s5) zN 0 s (by omega) (by unfold zN; omega)
  rw [zn0] at e1
  rw [e1]
  obtain ⟨S, e2, f0, f1, f2⟩ := m_keeps2 (c := fun s13 => gd (zib 58 60) <| nm (zUp s13 68 (zix 58) (s13 47 8)) fun s14 => gd (zib 59 60) <| nm (zUp s14 68 (zix 59) (s14 47 9)) fun s15 => some ((), s15)) zN 0 (kS1 0 s) (by omega) (by unfold zN; omega)
  rw [zn0] at e2
  rw [e2, gd_t (c := zib 58 60) rfl, nm_eq, gd_t (c := zib 59 60) rfl, nm_eq, show zix 58 = 58 from rfl, show zix 59 = 59 from rfl]
  have k1 : ∀ a k, a ≠ 68 → kS1 0 s a k = s a k := fun a k h => by unfold kS1; rw [if_neg (by omega)]
  refine ⟨_, rfl, fun a k h => ?_, fun k hk => ?_, fun k hk => ?_, ?_, ?_⟩
  · rw [zUp_off (by omega), zUp_off (by omega), f0 a k h, k1 a k h]
  · rw [zUp_off (by omega), zUp_off (by omega), f1 k (by omega)]
    unfold kS1
    rw [if_pos (by omega)]
  · obtain ⟨t1, t2, t3, t4⟩ := (f2 k hk).2 (by omega)
    simp only [zUp_off (show (68 : Nat) ≠ 68 ∨ 18 + k ≠ 58 by omega), zUp_off (show (68 : Nat) ≠ 68 ∨ 28 + k ≠ 58 by omega), zUp_off (show (68 : Nat) ≠ 68 ∨ 38 + k ≠ 58 by omega), zUp_off (show (68 : Nat) ≠ 68 ∨ 48 + k ≠ 58 by omega), zUp_off (show (68 : Nat) ≠ 68 ∨ 18 + k ≠ 59 by omega), zUp_off (show (68 : Nat) ≠ 68 ∨ 28 + k ≠ 59 by omega), zUp_off (show (68 : Nat) ≠ 68 ∨ 38 + k ≠ 59 by omega), zUp_off (show (68 : Nat) ≠ 68 ∨ 48 + k ≠ 59 by omega), t1, t2, t3, t4]
    exact ⟨k1 _ _ (by omega), k1 _ _ (by omega), k1 _ _ (by omega), k1 _ _ (by omega)⟩
  · rw [zUp_off (by omega), zUp_hit, f0 47 8 (by omega), k1 47 8 (by omega)]
  · rw [zUp_hit, zUp_off (by omega), f0 47 9 (by omega), k1 47 9 (by omega)]
def lS1 (i : Nat) (s : zMem) : zMem := fun a q => if a = 50 ∧ i ≤ q ∧ q < 18 then s 68 q else s a q
theorem m_lays1 {c : zMem → Option (Unit × zMem)} : ∀ (n i : Nat) (s : zMem), i ≤ 18 → 18 - i < n → f_X7_lays_2 c n (nI i) s = c (lS1 i s) := by
  intro n
  induction n with
  | zero => intro i s _ h; omega
  | succ n ih =>
    intro i s hi hn
    rw [f_X7_lays_2, show (18 : Int32) = nI 18 from rfl]
    by_cases q : 18 ≤ i
    · rw [if_pos (nI_le q (by omega))]
      congr 1
      funext a k
      unfold lS1
      rw [if_neg (by omega)]
    · rw [if_neg (nI_ge (by omega) (by omega)), gd_t (zib_nI (by omega) (by decide)), gd_t (zib_nI (by omega) (by decide)), zix_nI (by omega), nm_eq, nm_eq, nI_1, ih (i + 1) _ (by omega) (by omega)]
      congr 1
      funext a k
      unfold lS1
      by_cases c1 : a = 50
      · subst c1
        by_cases c2 : k = i
        · subst c2
          rw [if_neg (by omega), if_pos (by omega), zUp_hit]
        · by_cases c3 : i + 1 ≤ k ∧ k < 18
          · rw [if_pos (by omega), if_pos (by omega), zUp_off (by omega)]
          · rw [if_neg (by omega), if_neg (by omega), zUp_off (by omega)]
      · rw [if_neg (by omega), if_neg (by omega), zUp_off (by omega)]
theorem m_lays2 {c : zMem → Option (Unit × zMem)} : ∀ (n i : Nat) (s : zMem), i ≤ 10 → 10 - i < n → ∃ S, f_X7_lays_28 c n (nI i) s = c S ∧ (∀ a k, a < 51 ∨ 54 < a → S a k = s a k) ∧ (∀ k, k < 10 → (k < i → S 51 k = s 51 k ∧ S 52 k = s 52 k ∧ S 53 k = s 53 k ∧ S 54 k = s 54 k) ∧ (i ≤ k → S 51 k = s 68 (18 + k) ∧ S 52 k = s 68 (28 + k) ∧ S 53 k = s 68 (38 + k) ∧ S 54 k = s 68 (48 + k))) := by
  intro n
  induction n with
  | zero => intro i s _ h; omega
  | succ n ih =>
    intro i s hi hn
    rw [f_X7_lays_28, show (10 : Int32) = nI 10 from rfl]
    by_cases q : 10 ≤ i
    · rw [if_pos (nI_le q (by omega))]
      exact ⟨s, rfl, fun _ _ _ => rfl, fun k hk => ⟨fun _ => ⟨rfl, rfl, rfl, rfl⟩, fun _ => by omega⟩⟩
    · have x0 : zix (nI i) = i := zix_nI (by omega)
      have x1 : zix (nI (18 + i)) = 18 + i := zix_nI (by omega)
      have x2 : zix (nI (28 + i)) = 28 + i := zix_nI (by omega)
      have x3 : zix (nI (38 + i)) = 38 + i := zix_nI (by omega)
      have x4 : zix (nI (48 + i)) = 48 + i := zix_nI (by omega)
      have g0 : zib (nI i) 10 = true := zib_nI (by omega) (by decide)
      have g1 : zib (nI (18 + i)) 60 = true := zib_nI (by omega) (by decide)
      have g2 : zib (nI (28 + i)) 60 = true := zib_nI (by omega) (by decide)
      have g3 : zib (nI (38 + i)) 60 = true := zib_nI (by omega) (by decide)
      have g4 : zib (nI (48 + i)) 60 = true := zib_nI (by omega) (by decide)
      have a1 : (18 : Int32) + nI i = nI (18 + i) := nI_add 18 i
      have a2 : (28 : Int32) + nI i = nI (28 + i) := nI_add 28 i
      have a3 : (38 : Int32) + nI i = nI (38 + i) := nI_add 38 i
      have a4 : (48 : Int32) + nI i = nI (48 + i) := nI_add 48 i
      rw [if_neg (nI_ge (by omega) (by omega))]
      simp only [a1, a2, a3, a4, gd_t g0, gd_t g1, gd_t g2, gd_t g3, gd_t g4, nm_eq, x0, x1, x2, x3, x4, nI_1]
      have q2 : zUp s 51 i (s 68 (18 + i)) 68 (28 + i) = s 68 (28 + i) := zUp_off (by omega)
      have q3 : zUp (zUp s 51 i (s 68 (18 + i))) 52 i (s 68 (28 + i)) 68 (38 + i) = s 68 (38 + i) := by rw [zUp_off (by omega), zUp_off (by omega)]
      have q4 : zUp (zUp (zUp s 51 i (s 68 (18 + i))) 52 i (s 68 (28 + i))) 53 i (s 68 (38 + i)) 68 (48 + i) = s 68 (48 + i) := by rw [zUp_off (by omega), zUp_off (by omega), zUp_off (by omega)]
      rw [q2, q3, q4]
      obtain ⟨S, e, f0, f2⟩ := ih (i + 1) (zUp (zUp (zUp (zUp s 51 i (s 68 (18 + i))) 52 i (s 68 (28 + i))) 53 i (s 68 (38 + i))) 54 i (s 68 (48 + i))) (by omega) (by omega)
      have off : ∀ a k, (a < 51 ∨ 54 < a ∨ k ≠ i) → zUp (zUp (zUp (zUp s 51 i (s 68 (18 + i))) 52 i (s 68 (28 + i))) 53 i (s 68 (38 + i))) 54 i (s 68 (48 + i)) a k = s a k := fun a k h => by rw [zUp_off (by omega), zUp_off (by omega), zUp_off (by omega), zUp_off (by omega)]
      refine ⟨S, e, fun a k h => (f0 a k h).trans (off a k (by omega)), fun k hk => ⟨fun hki => ?_, fun hki => ?_⟩⟩
      · obtain ⟨t1, t2, t3, t4⟩ := (f2 k hk).1 (by omega)
        rw [t1, t2, t3, t4]
        exact ⟨off _ _ (by omega), off _ _ (by omega), off _ _ (by omega), off _ _ (by omega)⟩
      · by_cases c : k = i
        · subst c
          obtain ⟨t1, t2, t3, t4⟩ := (f2 k hk).1 (by omega)
          rw [t1, t2, t3, t4]
          refine ⟨?_, ?_, ?_, ?_⟩
          · rw [zUp_off (by omega), zUp_off (by omega), zUp_off (by omega), zUp_hit]
          · rw [zUp_off (by omega), zUp_off (by omega), zUp_hit]
          · rw [zUp_off (by omega), zUp_hit]
          · rw [zUp_hit]
        · obtain ⟨t1, t2, t3, t4⟩ := (f2 k hk).2 (by omega)
          rw [t1, t2, t3, t4]
          exact ⟨off _ _ (by omega), off _ _ (by omega), off _ _ (by omega), off _ _ (by omega)⟩
/-- what a question leaves of the model as it was -/
def agM (s S : zMem) : Prop := ∀ a k, 47 ≤ a → a ≠ 66 → a ≠ 67 → a ≠ 68 → (a = 50 → k < 18) → (51 ≤ a → a ≤ 54 → k < 10) → (a = 47 → k ≠ 36) → S a k = s a k
/-- what nights may change of it -/
def wM (s S : zMem) : Prop := ∀ a k, 47 ≤ a → (a = 47 → k ≠ 8 ∧ k ≠ 9 ∧ k ≠ 36) → a < 50 ∨ 54 < a → a ≠ 66 → a ≠ 67 → a ≠ 68 → S a k = s a k
theorem m_lays {s W : zMem} (h : kp s W) (hw : wM s W) : ∃ S, f_X7_lays W = some ((), S) ∧ agM s S := by
  unfold f_X7_lays
  have e1 := m_lays1 (c := fun s5 => f_X7_lays_28 (fun s13 => gd (zib 58 60) <| nm (zUp s13 47 8 (s13 68 (zix 58))) fun s14 => gd (zib 59 60) <| nm (zUp s14 47 9 (s14 68 (zix 59))) fun s15 => some ((), s15)) zN 0 s5) zN 0 W (by omega) (by unfold zN; omega)
  rw [zn0] at e1
  rw [e1]
  obtain ⟨S, e2, f0, f2⟩ := m_lays2 (c := fun s13 => gd (zib 58 60) <| nm (zUp s13 47 8 (s13 68 (zix 58))) fun s14 => gd (zib 59 60) <| nm (zUp s14 47 9 (s14 68 (zix 59))) fun s15 => some ((), s15)) zN 0 (lS1 0 W) (by omega) (by unfold zN; omega)
  rw [zn0] at e2
  rw [e2, gd_t (c := zib 58 60) rfl, nm_eq, gd_t (c := zib 59 60) rfl, nm_eq, show zix 58 = 58 from rfl, show zix 59 = 59 from rfl]
  have k1 : ∀ a k, a ≠ 50 → lS1 0 W a k = W a k := fun a k h => by unfold lS1; rw [if_neg (by omega)]
  refine ⟨_, rfl, fun a k h1 h2 h3 h4 h5 h6 h7 => ?_⟩
  rw [zUp_at]
  by_cases c1 : a = 47 ∧ k = 9
  · rw [if_pos c1, c1.1, c1.2, zUp_off (by omega), f0 _ _ (by omega), k1 _ _ (by omega)]
    exact h.2.2.2
  · rw [if_neg c1, zUp_at]
    by_cases c2 : a = 47 ∧ k = 8
    · rw [if_pos c2, c2.1, c2.2, f0 _ _ (by omega), k1 _ _ (by omega)]
      exact h.2.2.1
    · rw [if_neg c2]
      by_cases c3 : a = 50
      · subst c3
        rw [f0 _ _ (by omega)]
        unfold lS1
        rw [if_pos (by have := h5 rfl; omega)]
        exact h.1 k (h5 rfl)
      · by_cases c4 : 51 ≤ a ∧ a ≤ 54
        · have hk := h6 c4.1 c4.2
          obtain ⟨t1, t2, t3, t4⟩ := (f2 k hk).2 (by omega)
          obtain ⟨u1, u2, u3, u4⟩ := h.2.1 k hk
          rcases (by omega : a = 51 ∨ a = 52 ∨ a = 53 ∨ a = 54) with rfl | rfl | rfl | rfl
          · rw [t1, k1 _ _ (by omega), u1]
          · rw [t2, k1 _ _ (by omega), u2]
          · rw [t3, k1 _ _ (by omega), u3]
          · rw [t4, k1 _ _ (by omega), u4]
        · rw [f0 _ _ (by omega), k1 _ _ c3]
          exact hw a k h1 (by omega) (by omega) h2 h3 h4

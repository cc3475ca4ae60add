-- steps: image, back
def gS1 (i : Nat) (s : zMem) : zMem := fun a q => if a = 58 ∧ i ≤ q ∧ q < 18 then s 50 q else s a q
theorem m_img1 {c : zMem → Option (Int32 × zMem)} : ∀ (n i : Nat) (s : zMem), i ≤ 18 → 18 - i < n → f_X7_image_7 c n (nI i) s = c (gS1 i s) := by
  intro n
  induction n with
  | zero => intro i s _ h; omega
  | succ n ih =>
    intro i s hi hn
    rw [f_X7_image_7, show (18 : Int32) = nI 18 from rfl]
    by_cases q : 18 ≤ i
    · rw [if_pos (nI_le q (by omega))]
      congr 1
      funext a k
      unfold gS1
      rw [if_neg (by omega)]
    · rw [if_neg (nI_ge (by omega) (by omega)), gd_t (zib_nI (by omega) (by decide)), gd_t (zib_nI (by omega) (by decide)), zix_nI (by omega), nm_eq, nm_eq, nI_1, ih (i + 1) _ (by omega) (by omega)]
      congr 1
      funext a k
      unfold gS1
      by_cases c1 : a = 58
      · subst c1
        by_cases c2 : k = i
        · subst c2
          rw [if_neg (by omega), if_pos (by omega), zUp_hit]
        · by_cases c3 : i + 1 ≤ k ∧ k < 18
          · rw [if_pos (by omega), if_pos (by omega), zUp_off (by omega)]
          · rw [if_neg (by omega), if_neg (by omega), zUp_off (by omega)]
      · rw [if_neg (by omega), if_neg (by omega), zUp_off (by omega)]
def gS2 (i : Nat) (s : zMem) : zMem := fun a q => if a = 58 ∧ 18 + i ≤ q ∧ q < 28 then s 51 (q - 18) else if a = 58 ∧ 28 + i ≤ q ∧ q < 38 then s 52 (q - 28) else if a = 58 ∧ 38 + i ≤ q ∧ q < 48 then s 53 (q - 38) else if a = 58 ∧ 48 + i ≤ q ∧ q < 58 then s 54 (q - 48) else s a q
theorem m_img2 {c : zMem → Option (Int32 × zMem)} : ∀ (n i : Nat) (s : zMem), i ≤ 10 → 10 - i < n → ∃ S, f_X7_image_33 c n (nI i) s = c S ∧ (∀ a k, a ≠ 58 → S a k = s a k) ∧ (∀ k, k < 18 ∨ 58 ≤ k → S 58 k = s 58 k) ∧ (∀ k, k < 10 → (k < i → S 58 (18 + k) = s 58 (18 + k) ∧ S 58 (28 + k) = s 58 (28 + k) ∧ S 58 (38 + k) = s 58 (38 + k) ∧ S 58 (48 + k) = s 58 (48 + k)) ∧ (i ≤ k → S 58 (18 + k) = s 51 k ∧ S 58 (28 + k) = s 52 k ∧ S 58 (38 + k) = s 53 k ∧ S 58 (48 + k) = s 54 k)) := by
  intro n
  induction n with
  | zero => intro i s _ h; omega
  | succ n ih =>
    intro i s hi hn
    rw [f_X7_image_33, show (10 : Int32) = nI 10 from rfl]
    by_cases q : 10 ≤ i
    · rw [if_pos (nI_le q (by omega))]
      exact ⟨s, rfl, fun _ _ _ => rfl, fun _ _ => rfl, fun k hk => ⟨fun _ => ⟨rfl, rfl, rfl, rfl⟩, fun _ => by omega⟩⟩
    · have x0 : zix (nI i) = i := zix_nI (by omega)
      have x1 : zix (nI (18 + i)) = 18 + i := zix_nI (by omega)
      have x2 : zix (nI (28 + i)) = 28 + i := zix_nI (by omega)
      have x3 : zix (nI (38 + i)) = 38 + i := zix_nI (by omega)
      have x4 : zix (nI (48 + i)) = 48 + i := zix_nI (by omega)
      have g0 : zib (nI i) 10 = true := zib_nI (by omega) (by decide)
      have g1 : zib (nI (18 + i)) 58 = true := zib_nI (by omega) (by decide)
      have g2 : zib (nI (28 + i)) 58 = true := zib_nI (by omega) (by decide)
      have g3 : zib (nI (38 + i)) 58 = true := zib_nI (by omega) (by decide)
      have g4 : zib (nI (48 + i)) 58 = true := zib_nI (by omega) (by decide)
      have a1 : (18 : Int32) + nI i = nI (18 + i) := nI_add 18 i
      have a2 : (28 : Int32) + nI i = nI (28 + i) := nI_add 28 i
      have a3 : (38 : Int32) + nI i = nI (38 + i) := nI_add 38 i
      have a4 : (48 : Int32) + nI i = nI (48 + i) := nI_add 48 i
      rw [if_neg (nI_ge (by omega) (by omega))]
      simp only [a1, a2, a3, a4, gd_t g0, gd_t g1, gd_t g2, gd_t g3, gd_t g4, nm_eq, x0, x1, x2, x3, x4, nI_1]
      obtain ⟨S, e, f0, f1, f2⟩ := ih (i + 1) (zUp (zUp (zUp (zUp s 58 (18 + i) (s 51 i)) 58 (28 + i) (zUp s 58 (18 + i) (s 51 i) 52 i)) 58 (38 + i) (zUp (zUp s 58 (18 + i) (s 51 i)) 58 (28 + i) (zUp s 58 (18 + i) (s 51 i) 52 i) 53 i)) 58 (48 + i) (zUp (zUp (zUp s 58 (18 + i) (s 51 i)) 58 (28 + i) (zUp s 58 (18 + i) (s 51 i) 52 i)) 58 (38 + i) (zUp (zUp s 58 (18 + i) (s 51 i)) 58 (28 + i) (zUp s 58 (18 + i) (s 51 i) 52 i) 53 i) 54 i)) (by omega) (by omega)
      have e2 : zUp s 58 (18 + i) (s 51 i) 52 i = s 52 i := zUp_off (by omega)
      rw [e2] at e f0 f1 f2 ⊢
      have e3 : zUp (zUp s 58 (18 + i) (s 51 i)) 58 (28 + i) (s 52 i) 53 i = s 53 i := by rw [zUp_off (by omega), zUp_off (by omega)]
      rw [e3] at e f0 f1 f2 ⊢
      have e4 : zUp (zUp (zUp s 58 (18 + i) (s 51 i)) 58 (28 + i) (s 52 i)) 58 (38 + i) (s 53 i) 54 i = s 54 i := by rw [zUp_off (by omega), zUp_off (by omega), zUp_off (by omega)]
      rw [e4] at e f0 f1 f2 ⊢
      have off : ∀ a k, (a ≠ 58 ∨ (k ≠ 18 + i ∧ k ≠ 28 + i ∧ k ≠ 38 + i ∧ k ≠ 48 + i)) → zUp (zUp (zUp (zUp s 58 (18 + i) (s 51 i)) 58 (28 + i) (s 52 i)) 58 (38 + i) (s 53 i)) 58 (48 + i) (s 54 i) a k = s a k := fun a k h => by rw [zUp_off (by omega), zUp_off (by omega), zUp_off (by omega), zUp_off (by omega)]
      refine ⟨S, e, fun a k h => (f0 a k h).trans (off a k (Or.inl h)), fun k h => (f1 k h).trans (off 58 k (by omega)), fun k hk => ⟨fun hki => ?_, fun hki => ?_⟩⟩
      · obtain ⟨t1, t2, t3, t4⟩ := (f2 k hk).1 (by omega)
        rw [t1, t2, t3, t4]
        exact ⟨off _ _ (by omega), off _ _ (by omega), off _ _ (by omega), off _ _ (by omega)⟩
      · by_cases c : k = i
        · subst c
          obtain ⟨t1, t2, t3, t4⟩ := (f2 k hk).1 (by omega)
          rw [t1, t2, t3, t4]
          refine ⟨?_, ?_, ?_, ?_⟩
          · rw [zUp_off (by omega), zUp_off (by omega), zUp_off (by omega), zUp_hit]
          · rw [zUp_off (by omega), zUp_off (by omega), zUp_hit]
          · rw [zUp_off (by omega), zUp_hit]
          · rw [zUp_hit]
        · obtain ⟨t1, t2, t3, t4⟩ := (f2 k hk).2 (by omega)
          rw [t1, t2, t3, t4]
          exact ⟨off _ _ (by omega), off _ _ (by omega), off _ _ (by omega), off _ _ (by omega)⟩
def hS1 (i : Nat) (s : zMem) : zMem := fun a q => if a = 50 ∧ i ≤ q ∧ q < 18 then s 58 q else s a q
theorem m_bck1 {c : zMem → Option (Int32 × zMem)} : ∀ (n i : Nat) (s : zMem), i ≤ 18 → 18 - i < n → f_X7_back_12 c n (nI i) s = c (hS1 i s) := by
  intro n
  induction n with
  | zero => intro i s _ h; omega
  | succ n ih =>
    intro i s hi hn
    rw [f_X7_back_12, show (18 : Int32) = nI 18 from rfl]
    by_cases q : 18 ≤ i
    · rw [if_pos (nI_le q (by omega))]
      congr 1
      funext a k
      unfold hS1
      rw [if_neg (by omega)]
    · rw [if_neg (nI_ge (by omega) (by omega)), gd_t (zib_nI (by omega) (by decide)), gd_t (zib_nI (by omega) (by decide)), zix_nI (by omega), nm_eq, nm_eq, nI_1, ih (i + 1) _ (by omega) (by omega)]
      congr 1
      funext a k
      unfold hS1
      by_cases c1 : a = 50
      · subst c1
        by_cases c2 : k = i
        · subst c2
          rw [if_neg (by omega), if_pos (by omega), zUp_hit]
        · by_cases c3 : i + 1 ≤ k ∧ k < 18
          · rw [if_pos (by omega), if_pos (by omega), zUp_off (by omega)]
          · rw [if_neg (by omega), if_neg (by omega), zUp_off (by omega)]
      · rw [if_neg (by omega), if_neg (by omega), zUp_off (by omega)]
theorem m_bck2 {c : zMem → Option (Int32 × zMem)} : ∀ (n i : Nat) (s : zMem), i ≤ 10 → 10 - i < n → ∃ S, f_X7_back_38 c n (nI i) s = c S ∧ (∀ a k, a < 51 ∨ 54 < a → S a k = s a k) ∧ (∀ k, k < 10 → (k < i → S 51 k = s 51 k ∧ S 52 k = s 52 k ∧ S 53 k = s 53 k ∧ S 54 k = s 54 k) ∧ (i ≤ k → S 51 k = s 58 (18 + k) ∧ S 52 k = s 58 (28 + k) ∧ S 53 k = s 58 (38 + k) ∧ S 54 k = s 58 (48 + k))) := by
  intro n
  induction n with
  | zero => intro i s _ h; omega
  | succ n ih =>
    intro i s hi hn
    rw [f_X7_back_38, show (10 : Int32) = nI 10 from rfl]
    by_cases q : 10 ≤ i
    · rw [if_pos (nI_le q (by omega))]
      exact ⟨s, rfl, fun _ _ _ => rfl, fun k hk => ⟨fun _ => ⟨rfl, rfl, rfl, rfl⟩, fun _ => by omega⟩⟩
    · have x0 : zix (nI i) = i := zix_nI (by omega)
      have x1 : zix (nI (18 + i)) = 18 + i := zix_nI (by omega)
      have x2 : zix (nI (28 + i)) = 28 + i := zix_nI (by omega)
      have x3 : zix (nI (38 + i)) = 38 + i := zix_nI (by omega)
      have x4 : zix (nI (48 + i)) = 48 + i := zix_nI (by omega)
      have g0 : zib (nI i) 10 = true := zib_nI (by omega) (by decide)
      have g1 : zib (nI (18 + i)) 58 = true := zib_nI (by omega) (by decide)
      have g2 : zib (nI (28 + i)) 58 = true := zib_nI (by omega) (by decide)
      have g3 : zib (nI (38 + i)) 58 = true := zib_nI (by omega) (by decide)
      have g4 : zib (nI (48 + i)) 58 = true := zib_nI (by omega) (by decide)
      have a1 : (18 : Int32) + nI i = nI (18 + i) := nI_add 18 i
      have a2 : (28 : Int32) + nI i = nI (28 + i) := nI_add 28 i
      have a3 : (38 : Int32) + nI i = nI (38 + i) := nI_add 38 i
      have a4 : (48 : Int32) + nI i = nI (48 + i) := nI_add 48 i
      rw [if_neg (nI_ge (by omega) (by omega))]
      simp only [a1, a2, a3, a4, gd_t g0, gd_t g1, gd_t g2, gd_t g3, gd_t g4, nm_eq, x0, x1, x2, x3, x4, nI_1]
      have q2 : zUp s 51 i (s 58 (18 + i)) 58 (28 + i) = s 58 (28 + i) := zUp_off (by omega)
      have q3 : zUp (zUp s 51 i (s 58 (18 + i))) 52 i (s 58 (28 + i)) 58 (38 + i) = s 58 (38 + i) := by rw [zUp_off (by omega), zUp_off (by omega)]
      have q4 : zUp (zUp (zUp s 51 i (s 58 (18 + i))) 52 i (s 58 (28 + i))) 53 i (s 58 (38 + i)) 58 (48 + i) = s 58 (48 + i) := by rw [zUp_off (by omega), zUp_off (by omega), zUp_off (by omega)]
      rw [q2, q3, q4]
      obtain ⟨S, e, f0, f2⟩ := ih (i + 1) (zUp (zUp (zUp (zUp s 51 i (s 58 (18 + i))) 52 i (s 58 (28 + i))) 53 i (s 58 (38 + i))) 54 i (s 58 (48 + i))) (by omega) (by omega)
      have off : ∀ a k, (a < 51 ∨ 54 < a ∨ k ≠ i) → zUp (zUp (zUp (zUp s 51 i (s 58 (18 + i))) 52 i (s 58 (28 + i))) 53 i (s 58 (38 + i))) 54 i (s 58 (48 + i)) a k = s a k := fun a k h => by rw [zUp_off (by omega), zUp_off (by omega), zUp_off (by omega), zUp_off (by omega)]
      refine ⟨S, e, fun a k h => (f0 a k h).trans (off a k (by omega)), fun k hk => ⟨fun hki => ?_, fun hki => ?_⟩⟩
      · obtain ⟨t1, t2, t3, t4⟩ := (f2 k hk).1 (by omega)
        rw [t1, t2, t3, t4]
        exact ⟨off _ _ (by omega), off _ _ (by omega), off _ _ (by omega), off _ _ (by omega)⟩
      · by_cases c : k = i
        · subst c
          obtain ⟨t1, t2, t3, t4⟩ := (f2 k hk).1 (by omega)
          rw [t1, t2, t3, t4]
          refine ⟨?_, ?_, ?_, ?_⟩
          · rw [zUp_off (by omega), zUp_off (by omega), zUp_off (by omega), zUp_hit]
          · rw [zUp_off (by omega), zUp_off (by omega), zUp_hit]
          · rw [zUp_off (by omega), zUp_hit]
          · rw [zUp_hit]
        · obtain ⟨t1, t2, t3, t4⟩ := (f2 k hk).2 (by omega)
          rw [t1, t2, t3, t4]
          exact ⟨off _ _ (by omega), off _ _ (by omega), off _ _ (by omega), off _ _ (by omega)⟩
theorem m_image {M : Nat} {s : zMem} {T : zT} (hr : rM s T) (hb : tBd M T) : ∃ S, f_X7_image s = some (nI (T 9 0), S) ∧ imM S T ∧ S 47 16 = 1 ∧ ∀ a k, a ≠ 58 → a ≠ 59 → ¬ (a = 47 ∧ k = 16) → S a k = s a k := by
  obtain ⟨d0, d1, d2, d3⟩ := hr.c0
  have h6 := hb.1
  have h10 := hb.2.1
  unfold f_X7_image
  rw [nm_eq]
  have e1 := m_img1 (c := fun s6 => f_X7_image_33 (fun s14 => gd (zib 0 4) <| nm (zUp s14 59 (zix 0) (s14 47 0)) fun s15 => gd (zib 1 4) <| nm (zUp s15 59 (zix 1) (s15 47 8)) fun s16 => gd (zib 2 4) <| nm (zUp s16 59 (zix 2) (s16 47 9)) fun s17 => gd (zib 3 4) <| nm (zUp s17 59 (zix 3) (s17 47 15)) fun s18 => some (s18 47 0, s18)) zN 0 s6) zN 0 (zUp s 47 16 1) (by omega) (by unfold zN; omega)
  rw [zn0] at e1
  rw [e1]
  obtain ⟨S, e2, f0, f1, f2⟩ := m_img2 (c := fun s14 => gd (zib 0 4) <| nm (zUp s14 59 (zix 0) (s14 47 0)) fun s15 => gd (zib 1 4) <| nm (zUp s15 59 (zix 1) (s15 47 8)) fun s16 => gd (zib 2 4) <| nm (zUp s16 59 (zix 2) (s16 47 9)) fun s17 => gd (zib 3 4) <| nm (zUp s17 59 (zix 3) (s17 47 15)) fun s18 => some (s18 47 0, s18)) zN 0 (gS1 0 (zUp s 47 16 1)) (by omega) (by unfold zN; omega)
  rw [zn0] at e2
  rw [e2, gd_t (c := zib 0 4) rfl, nm_eq, gd_t (c := zib 1 4) rfl, nm_eq, gd_t (c := zib 2 4) rfl, nm_eq, gd_t (c := zib 3 4) rfl, nm_eq, show zix 0 = 0 from rfl, show zix 1 = 1 from rfl, show zix 2 = 2 from rfl, show zix 3 = 3 from rfl]
  have k1 : ∀ a k, a ≠ 58 → ¬ (a = 47 ∧ k = 16) → gS1 0 (zUp s 47 16 1) a k = s a k := fun a k h h2 => by unfold gS1; rw [if_neg (by omega), zUp_off (by omega)]
  have k2 : ∀ a k, a ≠ 58 → ¬ (a = 47 ∧ k = 16) → S a k = s a k := fun a k h h2 => by rw [f0 a k h, k1 a k h h2]
  have w0 : S 47 0 = nI (T 9 0) := by rw [k2 _ _ (by omega) (by omega), d0]
  have w1 : S 47 8 = nI (T 9 1) := by rw [k2 _ _ (by omega) (by omega), d1]
  have w2 : S 47 9 = nI (T 9 2) := by rw [k2 _ _ (by omega) (by omega), d2]
  have w3 : S 47 15 = nI (T 9 3) := by rw [k2 _ _ (by omega) (by omega), d3]
  have v1 : zUp S 59 0 (nI (T 9 0)) 47 8 = nI (T 9 1) := by rw [zUp_off (by omega), w1]
  have v2 : zUp (zUp S 59 0 (nI (T 9 0))) 59 1 (nI (T 9 1)) 47 9 = nI (T 9 2) := by rw [zUp_off (by omega), zUp_off (by omega), w2]
  have v3 : zUp (zUp (zUp S 59 0 (nI (T 9 0))) 59 1 (nI (T 9 1))) 59 2 (nI (T 9 2)) 47 15 = nI (T 9 3) := by rw [zUp_off (by omega), zUp_off (by omega), zUp_off (by omega), w3]
  have v4 : zUp (zUp (zUp (zUp S 59 0 (nI (T 9 0))) 59 1 (nI (T 9 1))) 59 2 (nI (T 9 2))) 59 3 (nI (T 9 3)) 47 0 = nI (T 9 0) := by rw [zUp_off (by omega), zUp_off (by omega), zUp_off (by omega), zUp_off (by omega), w0]
  rw [w0, v1, v2, v3, v4]
  have off : ∀ a k, a ≠ 59 → zUp (zUp (zUp (zUp S 59 0 (nI (T 9 0))) 59 1 (nI (T 9 1))) 59 2 (nI (T 9 2))) 59 3 (nI (T 9 3)) a k = S a k := fun a k h => by rw [zUp_off (by omega), zUp_off (by omega), zUp_off (by omega), zUp_off (by omega)]
  have rows : ∀ k, k < 18 → S 58 k = s 50 k := fun k hk => by
    rw [f1 k (by omega)]
    unfold gS1
    rw [if_pos (by omega), zUp_off (by omega)]
  refine ⟨_, rfl, ⟨fun i hi => ?_, fun k hk => ?_, ?_, ?_, ?_, ?_⟩, ?_, fun a k h1 h2 h3 => by rw [off a k h2, k2 a k h1 h3]⟩
  · obtain ⟨c0, c1, c2, _⟩ := hr.ch hi
    rw [off _ _ (by omega), off _ _ (by omega), off _ _ (by omega), rows _ (by omega), rows _ (by omega), rows _ (by omega)]
    exact ⟨c0, c1, c2⟩
  · obtain ⟨c0, c1, c2, c3⟩ := hr.cl hk
    obtain ⟨t1, t2, t3, t4⟩ := (f2 k (by omega)).2 (by omega)
    rw [off _ _ (by omega), off _ _ (by omega), off _ _ (by omega), off _ _ (by omega), t1, t2, t3, t4, k1 _ _ (by omega) (by omega), k1 _ _ (by omega) (by omega), k1 _ _ (by omega) (by omega), k1 _ _ (by omega) (by omega)]
    exact ⟨c0, c1, c2, c3⟩
  · rw [zUp_off (by omega), zUp_off (by omega), zUp_off (by omega), zUp_hit]
  · rw [zUp_off (by omega), zUp_off (by omega), zUp_hit]
  · rw [zUp_off (by omega), zUp_hit]
  · rw [zUp_hit]
  · rw [off _ _ (by omega), f0 _ _ (by omega)]
    unfold gS1
    rw [if_neg (by omega), zUp_hit]
theorem m_back {M : Nat} {s : zMem} {T U : zT} (hr : rM s T) (hu : imM s U) (hb : tBd M U) (h9 : U 9 0 ≤ T 9 0) (hk : ∀ i, i < U 9 0 → T 3 i = U 3 i ∧ T 4 i = U 4 i) (h16 : s 47 16 = 1) : ∃ S, f_X7_back s = some (nI (U 9 0), S) ∧ rM S U := by
  obtain ⟨u1, u2, u3, u4, u5, u6⟩ := hu
  have h6 := hb.1
  have h10 := hb.2.1
  unfold f_X7_back
  rw [h16, if_neg (by decide)]
  have e1 := m_bck1 (c := fun s5 => f_X7_back_38 (fun s13 => gd (zib 0 4) <| nm (zUp s13 47 0 (s13 59 (zix 0))) fun s14 => gd (zib 1 4) <| nm (zUp s14 47 8 (s14 59 (zix 1))) fun s15 => gd (zib 2 4) <| nm (zUp s15 47 9 (s15 59 (zix 2))) fun s16 => gd (zib 3 4) <| nm (zUp s16 47 15 (s16 59 (zix 3))) fun s17 => some (s17 47 0, s17)) zN 0 s5) zN 0 s (by omega) (by unfold zN; omega)
  rw [zn0] at e1
  rw [e1]
  obtain ⟨S, e2, f0, f2⟩ := m_bck2 (c := fun s13 => gd (zib 0 4) <| nm (zUp s13 47 0 (s13 59 (zix 0))) fun s14 => gd (zib 1 4) <| nm (zUp s14 47 8 (s14 59 (zix 1))) fun s15 => gd (zib 2 4) <| nm (zUp s15 47 9 (s15 59 (zix 2))) fun s16 => gd (zib 3 4) <| nm (zUp s16 47 15 (s16 59 (zix 3))) fun s17 => some (s17 47 0, s17)) zN 0 (hS1 0 s) (by omega) (by unfold zN; omega)
  rw [zn0] at e2
  rw [e2, gd_t (c := zib 0 4) rfl, nm_eq, gd_t (c := zib 1 4) rfl, nm_eq, gd_t (c := zib 2 4) rfl, nm_eq, gd_t (c := zib 3 4) rfl, nm_eq, show zix 0 = 0 from rfl, show zix 1 = 1 from rfl, show zix 2 = 2 from rfl, show zix 3 = 3 from rfl]
  have k1 : ∀ a k, a ≠ 50 → hS1 0 s a k = s a k := fun a k h => by unfold hS1; rw [if_neg (by omega)]
  have k2 : ∀ a k, a < 50 ∨ 54 < a → S a k = s a k := fun a k h => by rw [f0 a k (by omega), k1 a k (by omega)]
  have w0 : S 59 0 = nI (U 9 0) := by rw [k2 _ _ (by omega), u3]
  have v1 : zUp S 47 0 (nI (U 9 0)) 59 1 = nI (U 9 1) := by rw [zUp_off (by omega), k2 _ _ (by omega), u4]
  have v2 : zUp (zUp S 47 0 (nI (U 9 0))) 47 8 (nI (U 9 1)) 59 2 = nI (U 9 2) := by rw [zUp_off (by omega), zUp_off (by omega), k2 _ _ (by omega), u5]
  have v3 : zUp (zUp (zUp S 47 0 (nI (U 9 0))) 47 8 (nI (U 9 1))) 47 9 (nI (U 9 2)) 59 3 = nI (U 9 3) := by rw [zUp_off (by omega), zUp_off (by omega), zUp_off (by omega), k2 _ _ (by omega), u6]
  have v4 : zUp (zUp (zUp (zUp S 47 0 (nI (U 9 0))) 47 8 (nI (U 9 1))) 47 9 (nI (U 9 2))) 47 15 (nI (U 9 3)) 47 0 = nI (U 9 0) := by rw [zUp_off (by omega), zUp_off (by omega), zUp_off (by omega), zUp_hit]
  rw [w0, v1, v2, v3, v4]
  have off : ∀ a k, a ≠ 47 → zUp (zUp (zUp (zUp S 47 0 (nI (U 9 0))) 47 8 (nI (U 9 1))) 47 9 (nI (U 9 2))) 47 15 (nI (U 9 3)) a k = S a k := fun a k h => by rw [zUp_off (by omega), zUp_off (by omega), zUp_off (by omega), zUp_off (by omega)]
  have rows : ∀ k, k < 18 → S 50 k = s 58 k := fun k hk => by
    rw [f0 _ _ (by omega)]
    unfold hS1
    rw [if_pos (by omega)]
  refine ⟨_, rfl, rM.mk ⟨?_, ?_, ?_, ?_⟩ (fun i hi => ?_) (fun k hk2 => ?_)⟩
  · rw [zUp_off (by omega), zUp_off (by omega), zUp_off (by omega), zUp_hit]
  · rw [zUp_off (by omega), zUp_off (by omega), zUp_hit]
  · rw [zUp_off (by omega), zUp_hit]
  · rw [zUp_hit]
  · obtain ⟨c0, c1, c2⟩ := u1 i hi
    obtain ⟨_, _, _, c3, c4⟩ := hr.ch (i := i) (by omega)
    obtain ⟨q3, q4⟩ := hk i hi
    rw [off _ _ (by omega), off _ _ (by omega), off _ _ (by omega), off _ _ (by omega), off _ _ (by omega), rows _ (by omega), rows _ (by omega), rows _ (by omega), k2 _ _ (by omega), k2 _ _ (by omega), ← q3, ← q4]
    exact ⟨c0, c1, c2, c3, c4⟩
  · obtain ⟨c0, c1, c2, c3⟩ := u2 k hk2
    obtain ⟨t1, t2, t3, t4⟩ := (f2 k (by omega)).2 (by omega)
    rw [off _ _ (by omega), off _ _ (by omega), off _ _ (by omega), off _ _ (by omega), t1, t2, t3, t4, k1 _ _ (by omega), k1 _ _ (by omega), k1 _ _ (by omega), k1 _ _ (by omega)]
    exact ⟨c0, c1, c2, c3⟩
theorem step_image : stepOk (fun s => f_X6_image s) (fun s => f_X7_image s) := by
  refine step_c (fun a k v s hk e => fr_X6_image a k (by omega) e) (fun a k v s hk e => fr_X7_image a k (by omega) e) ?_
  intro T U P K F z B Z s hx hc
  show ∃ T' U' P' K' F' z' B' Z' v S, f_X6_image s = some (v, S) ∧ _
  obtain ⟨S1, d1, r1, _⟩ := k_become_31 hc.1 hx.1
  have f1 : ∀ a k, a < 31 ∨ 40 < a → S1 a k = s a k := fun a k hk => fr_X5_becomeAs a k (by omega) rfl _ S1 d1
  obtain ⟨y1, y2, y3, y4, y5, y6, y7, y8⟩ := id hc
  have f2 : ∀ a k, a < 31 ∨ 40 < a → ¬ (a = 0 ∧ k = 7) → zUp S1 0 7 1 a k = s a k := fun a k h1 h2 => by rw [zUp_off (by omega), f1 a k h1]
  refine ⟨T, T, P, K, 1, z, B, Z, nI (T 9 0), zUp S1 0 7 1, ?_, ⟨hx.1, hx.2.1, hx.2.2.1, by omega, fun _ => ⟨hx.1, hx.2.1, Nat.le_refl _, fun _ _ => ⟨rfl, rfl⟩⟩, hx.2.2.2.2.2⟩, ⟨y1.of (fun a k hk => f2 a k (by omega) (by omega)), y2.of (fun k => f2 _ _ (by omega) (by omega)) (fun k => f2 _ _ (by omega) (by omega)), by rw [f2 _ _ (by omega) (by omega), y3], y4.of (f2 _ _ (by omega) (by omega)) (fun i _ => f2 _ _ (by omega) (by omega)), zUp_hit _ _ _ _, fun _ => r1.of (fun a k hk => zUp_off (by omega)), fun i hi => by rw [f2 _ _ (by omega) (by omega), f2 _ _ (by omega) (by omega)]; exact y7 i hi, fun i hi => by rw [f2 _ _ (by omega) (by omega)]; exact y8 i hi⟩, fun S hm => ?_⟩
  · unfold f_X6_image
    rw [d1, bd_s, nm_eq, f2 _ _ (by omega) (by omega), y1.c0.1]
  · obtain ⟨S2, d2, im, h16, f⟩ := m_image hm.1 hx.1
    obtain ⟨m1, m2, m3, m4, m5, m6, m7, m8, m9⟩ := hm
    exact ⟨S2, d2, m1.of (fun a k hk => f a k (by omega) (by omega) (by omega)), m2.of (fun k => f _ _ (by omega) (by omega) (by omega)) (fun k => f _ _ (by omega) (by omega) (by omega)), by rw [f _ _ (by omega) (by omega) (by omega), m3], m4.of (f _ _ (by omega) (by omega) (by omega)) (fun i _ => f _ _ (by omega) (by omega) (by omega)), h16, fun _ => im, fun i hi => by rw [f _ _ (by omega) (by omega) (by omega), f _ _ (by omega) (by omega) (by omega)]; exact m7 i hi, fun i hi => by rw [f _ _ (by omega) (by omega) (by omega)]; exact m8 i hi, m9.of (fun k => f _ _ (by omega) (by omega) (by omega))⟩
theorem step_back : stepOk (fun s => f_X6_back s) (fun s => f_X7_back s) := by
  refine step_c (fun a k v s hk e => fr_X6_back a k (by omega) e) (fun a k v s hk e => fr_X7_back a k (by omega) e) ?_
  intro T U P K F z B Z s hx hc
  show ∃ T' U' P' K' F' z' B' Z' v S, f_X6_back s = some (v, S) ∧ _
  have hF := hx.2.2.2.1
  rcases (by omega : F = 0 ∨ F = 1) with rfl | rfl
  · refine ⟨T, U, P, K, 0, z, B, Z, -3, s, ?_, hx, hc, fun S hm => ⟨S, ?_, hm⟩⟩
    · unfold f_X6_back
      rw [hc.2.2.2.2.1, if_pos (show nI 0 = 0 from rfl)]
    · show f_X7_back S = _
      unfold f_X7_back
      rw [hm.2.2.2.2.1, if_pos (show nI 0 = 0 from rfl)]
  · obtain ⟨b1, b2, b3, b4⟩ := hx.2.2.2.2.1 rfl
    have hu := hc.2.2.2.2.2.1 rfl
    obtain ⟨S1, d1, r1, _⟩ := k_become_9 hu b1
    refine ⟨U, U, P, K, 1, z, B, Z, nI (U 9 0), S1, ?_, ⟨b1, b2, hx.2.2.1, hF, fun _ => ⟨b1, b2, Nat.le_refl _, fun _ _ => ⟨rfl, rfl⟩⟩, hx.2.2.2.2.2⟩, hc.upT r1 (fun a k hk hn => fr_X5_becomeAs a k (by unfold cC at hk; omega) rfl _ S1 d1), fun S hm => ?_⟩
    · unfold f_X6_back
      rw [hc.2.2.2.2.1, if_neg (by decide), d1, bd_s, r1.c0.1]
    · obtain ⟨S2, d2, r2⟩ := m_back hm.1 (hm.2.2.2.2.2.1 rfl) b1 b3 b4 hm.2.2.2.2.1
      exact ⟨S2, d2, hm.upT r2 (fun a k hk h1 h2 => fr_X7_back a k (by omega) rfl _ S2 d2)⟩

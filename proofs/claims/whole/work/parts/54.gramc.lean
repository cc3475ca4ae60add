-- the class reads by the grammar
def cOk (B : Nat → Nat) (z : Nat) (W : List Nat) (q : Nat) (s : zMem) : Prop := tpC B z s ∧ q ≤ z ∧ W.length ≤ 160 ∧ s 5 5 = nI (tkE B z q) ∧ s 5 6 = nI (tkB B z q) ∧ s 5 7 = nI (tkK B z q) ∧ (tkK B z q = 2 ∨ tkK B z q = 3 → s 5 8 = nI (tkV B z q)) ∧ s 5 9 = -1 ∧ s 5 3 = nI W.length ∧ ∀ i, i < W.length → s 7 i = encC (W.getD i 0)
def cF (B : Nat → Nat) (z f : Nat) (s : zMem) : Prop := tpC B z s ∧ s 5 7 = 1 ∧ s 5 9 = nI f ∧ f ≤ 160 ∧ ∃ m, m ≤ 160 ∧ s 5 3 = nI m
def cRes (B : Nat → Nat) (z : Nat) (W : List Nat) (r : zGr) (S : zMem) : Prop := match r with
  | .error f => cF B z f S
  | .ok (q, D) => cOk B z (W ++ D) q S
theorem tkB_le {B : Nat → Nat} {z q : Nat} (hq : q ≤ z) : tkB B z q ≤ z := (run_b isBl B z q).2 hq
theorem tkK_le {B : Nat → Nat} {z q : Nat} (hB : ∀ i, i < z → B i < 256) : tkK B z q < 256 := by
  unfold tkK
  by_cases c : z ≤ tkB B z q
  · rw [if_pos c]; omega
  · rw [if_neg c]
    have := hB (tkB B z q) (by omega)
    unfold kdW
    repeat' split
    all_goals first | omega | skip
    all_goals (rcases wixF_s B (tkB B z q) (tkE B z q) 12 0 rfl with ⟨h1, _⟩ | ⟨_, h2, _⟩ <;> (unfold wix at *; omega))
theorem nIm1 {f : Nat} (h : f < 2 ^ 31) : ¬ nI f = -1 := fun r => absurd (r ▸ nI_pos' h) (by decide)
theorem c_emit {B : Nat → Nat} {z q c : Nat} {W : List Nat} {s : zMem} (h : cOk B z W q s) (hl : W.length < 160) : ∃ S, f_X2_emit (encC c) s = some ((), S) ∧ cOk B z (W ++ [c]) q S := by
  obtain ⟨t, hq, hw, h5, h6, h7, h8, h9, h3, hc⟩ := h
  unfold f_X2_emit
  rw [h3, if_neg (n160 _ hl), gd_t (zib_nI hl (by decide)), nm_eq, zix_nI (by omega), zUp_off (by omega), h3, nI_1, nm_eq]
  have off : ∀ a k, ¬ (a = 5 ∧ k = 3) → a ≠ 7 → zUp (zUp s 7 W.length (encC c)) 5 3 (nI (W.length + 1)) a k = s a k := fun a k h1 h2 => by rw [zUp_off (by omega), zUp_off (by omega)]
  refine ⟨_, rfl, t.of (off _ _ (by omega) (by omega)) (fun i _ => off _ _ (by omega) (by omega)), hq, by simp; omega, ?_, ?_, ?_, fun r => ?_, ?_, ?_, fun i hi => ?_⟩
  · rw [off _ _ (by omega) (by omega), h5]
  · rw [off _ _ (by omega) (by omega), h6]
  · rw [off _ _ (by omega) (by omega), h7]
  · rw [off _ _ (by omega) (by omega), h8 r]
  · rw [off _ _ (by omega) (by omega), h9]
  · rw [zUp_hit]; simp
  · simp only [List.length_append, List.length_cons, List.length_nil] at hi
    rw [zUp_off (by omega)]
    by_cases e : i = W.length
    · subst e
      rw [zUp_hit, List.getD_eq_getElem?_getD, List.getElem?_append_right (Nat.le_refl _)]
      simp
    · rw [zUp_off (by omega), hc i (by omega), List.getD_eq_getElem?_getD, List.getD_eq_getElem?_getD, List.getElem?_append_left (by omega)]
theorem f_emit {B : Nat → Nat} {z f : Nat} {v : Int32} {s : zMem} (h : cF B z f s) : ∃ S, f_X2_emit v s = some ((), S) ∧ cF B z f S := by
  obtain ⟨t, h7, h9, hf, m, hm, h3⟩ := h
  unfold f_X2_emit
  rw [h3]
  by_cases c : 160 ≤ m
  · rw [if_pos (show (160 : Int32) ≤ nI m from nI_le (a := 160) c (by omega))]
    exact ⟨s, rfl, t, h7, h9, hf, m, hm, h3⟩
  · rw [if_neg (n160 _ (by omega)), gd_t (zib_nI (by omega) (by decide)), nm_eq, zix_nI (by omega), zUp_off (by omega), h3, nI_1, nm_eq]
    exact ⟨_, rfl, t.of (by rw [zUp_off (by omega), zUp_off (by omega)]) (fun i _ => by rw [zUp_off (by omega), zUp_off (by omega)]), by rw [zUp_off (by omega), zUp_off (by omega), h7], by rw [zUp_off (by omega), zUp_off (by omega), h9], hf, m + 1, by omega, zUp_hit _ _ _ _⟩
theorem c_read {B : Nat → Nat} {z q : Nat} {W : List Nat} {s : zMem} (h : cOk B z W q s) : ∃ S, f_X2_readToken s = some ((), S) ∧ cOk B z W (tkE B z q) S := by
  obtain ⟨t, hq, hw, h5, h6, h7, h8, h9, h3, hc⟩ := h
  have ht := tk_end (B := B) hq
  obtain ⟨S, e, g5, g6, g7, g8⟩ := c_tok t ht.1 h5
  have off : ∀ a k, ¬ (a = 5 ∧ (k = 5 ∨ k = 6 ∨ k = 7 ∨ k = 8)) → S a k = s a k := fun a k hk => fr_X2_readToken a k hk rfl _ S e
  exact ⟨S, e, t.of (off _ _ (by omega)) (fun i _ => off _ _ (by omega)), ht.1, hw, g5, g6, g7, g8, by rw [off _ _ (by omega), h9], by rw [off _ _ (by omega), h3], fun i hi => by rw [off _ _ (by omega), hc i hi]⟩
theorem c_fail {B : Nat → Nat} {z q : Nat} {W : List Nat} {s : zMem} (h : cOk B z W q s) : ∃ S, f_X2_fail s = some ((), S) ∧ cF B z (tkB B z q) S := by
  obtain ⟨t, hq, hw, h5, h6, h7, h8, h9, h3, hc⟩ := h
  have := tkB_le (B := B) hq
  have := t.2.1
  unfold f_X2_fail
  rw [h9, if_pos rfl, nm_eq, nm_eq, h6]
  exact ⟨_, rfl, t.of (by rw [zUp_off (by omega), zUp_off (by omega)]) (fun i _ => by rw [zUp_off (by omega), zUp_off (by omega)]), zUp_hit _ _ _ _, by rw [zUp_off (by omega), zUp_hit], by omega, W.length, hw, by rw [zUp_off (by omega), zUp_off (by omega), h3]⟩
theorem f_fail {B : Nat → Nat} {z f : Nat} {s : zMem} (h : cF B z f s) : ∃ S, f_X2_fail s = some ((), S) ∧ cF B z f S := by
  obtain ⟨t, h7, h9, hf, m, hm, h3⟩ := h
  unfold f_X2_fail
  rw [h9, if_neg (nIm1 (by omega)), nm_eq]
  exact ⟨_, rfl, t.of (zUp_off (by omega)) (fun i _ => zUp_off (by omega)), zUp_hit _ _ _ _, by rw [zUp_off (by omega), h9], hf, m, hm, by rw [zUp_off (by omega), h3]⟩
theorem c_kd {B : Nat → Nat} {z q : Nat} {W : List Nat} {s : zMem} (h : cOk B z W q s) (j : Nat) (hj : j < 256) : (s 5 7 = nI j) = (tkK B z q = j) := by
  have := tkK_le (B := B) (z := z) (q := q) (fun i hi => (h.1.2.2 i hi).2)
  rw [h.2.2.2.2.2.1]
  exact nI_lit j (by omega) (by omega)
-- a level's chain
theorem cn_Or {B : Nat → Nat} {z o : Nat} {W : List Nat} {rc : Nat → Int32 → zMem → Option (Unit × zMem)} {g : Nat → zGr} (hg : ∀ q (W : List Nat) s, W.length ≤ q → cOk B z W q s → ∃ S, rc 1 (nI o) s = some ((), S) ∧ cRes B z W (g q) S) (hl : ∀ q q1 D, q ≤ z → g q = .ok (q1, D) → q + D.length ≤ q1 ∧ q1 ≤ z) : ∀ (n i q : Nat) (D : List Nat) (s : zMem), i ≤ 160 → 160 - i < n → W.length + D.length ≤ q → cOk B z (W ++ D) q s → ∃ S, f_X2_readOr_7 rc n (nI o) (nI i) s = some ((), S) ∧ cRes B z W (chn B z g 0 (160 - i) q D) S := by
  intro n
  induction n with
  | zero => intro i q D s _ h; omega
  | succ n ih =>
    intro i q D s hi hn hw h
    rw [f_X2_readOr_7]
    by_cases c1 : 160 ≤ i
    · rw [if_pos (show (160 : Int32) ≤ nI i from nI_le (a := 160) c1 (by omega)), show 160 - i = 0 by omega]
      exact ⟨s, rfl, h⟩
    · have ek : (s 5 7 = 7) = (tkK B z q = 7) := c_kd h 7 (by omega)
      rw [if_neg (n160 i (by omega)), show 160 - i = (160 - (i + 1)) + 1 by omega, chn]
      by_cases c2 : tkK B z q = 7
      · have hop : opK 0 (tkK B z q) = some 11 := by rw [c2]; rfl
        have ht := tk_end (B := B) h.2.1
        have hlt := ht.2.2.1 (by omega)
        have hz := h.1.2.1
        rw [if_pos (ek.mpr c2), hop]
        obtain ⟨S1, e1, o1⟩ := c_read h
        obtain ⟨S2, e2, o2⟩ := hg _ (W ++ D) S1 (by simp only [List.length_append]; omega) o1
        rw [e1, bd_s, e2, bd_s]
        cases hgq : g (tkE B z q) with
        | error f =>
          rw [hgq] at o2
          obtain ⟨S3, e3, o3⟩ := f_emit (v := -27) o2
          rw [e3, bd_s, nm_eq, nI_1]
          dsimp only
          cases n with
          | zero => omega
          | succ n =>
            rw [f_X2_readOr_7]
            refine ⟨S3, ?_, o3⟩
            split
            · rfl
            · rw [o3.2.1, if_neg (by decide)]
        | ok p =>
          obtain ⟨q2, D2⟩ := p
          rw [hgq] at o2
          have h2 := hl _ _ _ ht.1 hgq
          have o2' : cOk B z (W ++ D ++ D2) q2 S2 := o2
          obtain ⟨S3, e3, o3⟩ := c_emit (c := 11) o2' (by simp only [List.length_append]; omega)
          rw [show (-27 : Int32) = encC 11 from rfl, e3, bd_s, nm_eq, nI_1]
          dsimp only
          rw [List.append_assoc, List.append_assoc] at o3
          rw [← List.append_assoc D D2 [11]] at o3
          exact ih (i + 1) q2 _ S3 (by omega) (by omega) (by simp only [List.length_append, List.length_cons, List.length_nil]; omega) o3
      · have hop : opK 0 (tkK B z q) = none := by unfold opK; simp [c2]
        rw [if_neg (fun r => c2 (ek.mp r)), hop]
        exact ⟨s, rfl, h⟩
theorem fn_Or {B : Nat → Nat} {z f : Nat} {rc : Nat → Int32 → zMem → Option (Unit × zMem)} {o : Int32} {s : zMem} (h : cF B z f s) : f_X2_readOr_7 rc zN o 0 s = some ((), s) := by
  unfold zN
  rw [f_X2_readOr_7, if_neg (by decide), h.2.1, if_neg (by decide)]
theorem cn_And {B : Nat → Nat} {z o : Nat} {W : List Nat} {rc : Nat → Int32 → zMem → Option (Unit × zMem)} {g : Nat → zGr} (hg : ∀ q (W : List Nat) s, W.length ≤ q → cOk B z W q s → ∃ S, rc 2 (nI o) s = some ((), S) ∧ cRes B z W (g q) S) (hl : ∀ q q1 D, q ≤ z → g q = .ok (q1, D) → q + D.length ≤ q1 ∧ q1 ≤ z) : ∀ (n i q : Nat) (D : List Nat) (s : zMem), i ≤ 160 → 160 - i < n → W.length + D.length ≤ q → cOk B z (W ++ D) q s → ∃ S, f_X2_readAnd_7 rc n (nI o) (nI i) s = some ((), S) ∧ cRes B z W (chn B z g 1 (160 - i) q D) S := by
  intro n
  induction n with
  | zero => intro i q D s _ h; omega
  | succ n ih =>
    intro i q D s hi hn hw h
    rw [f_X2_readAnd_7]
    by_cases c1 : 160 ≤ i
    · rw [if_pos (show (160 : Int32) ≤ nI i from nI_le (a := 160) c1 (by omega)), show 160 - i = 0 by omega]
      exact ⟨s, rfl, h⟩
    · have ek : (s 5 7 = 8) = (tkK B z q = 8) := c_kd h 8 (by omega)
      rw [if_neg (n160 i (by omega)), show 160 - i = (160 - (i + 1)) + 1 by omega, chn]
      by_cases c2 : tkK B z q = 8
      · have hop : opK 1 (tkK B z q) = some 12 := by rw [c2]; rfl
        have ht := tk_end (B := B) h.2.1
        have hlt := ht.2.2.1 (by omega)
        have hz := h.1.2.1
        rw [if_pos (ek.mpr c2), hop]
        obtain ⟨S1, e1, o1⟩ := c_read h
        obtain ⟨S2, e2, o2⟩ := hg _ (W ++ D) S1 (by simp only [List.length_append]; omega) o1
        rw [e1, bd_s, e2, bd_s]
        cases hgq : g (tkE B z q) with
        | error f =>
          rw [hgq] at o2
          obtain ⟨S3, e3, o3⟩ := f_emit (v := -26) o2
          rw [e3, bd_s, nm_eq, nI_1]
          dsimp only
          cases n with
          | zero => omega
          | succ n =>
            rw [f_X2_readAnd_7]
            refine ⟨S3, ?_, o3⟩
            split
            · rfl
            · rw [o3.2.1, if_neg (by decide)]
        | ok p =>
          obtain ⟨q2, D2⟩ := p
          rw [hgq] at o2
          have h2 := hl _ _ _ ht.1 hgq
          have o2' : cOk B z (W ++ D ++ D2) q2 S2 := o2
          obtain ⟨S3, e3, o3⟩ := c_emit (c := 12) o2' (by simp only [List.length_append]; omega)
          rw [show (-26 : Int32) = encC 12 from rfl, e3, bd_s, nm_eq, nI_1]
          dsimp only
          rw [List.append_assoc, List.append_assoc] at o3
          rw [← List.append_assoc D D2 [12]] at o3
          exact ih (i + 1) q2 _ S3 (by omega) (by omega) (by simp only [List.length_append, List.length_cons, List.length_nil]; omega) o3
      · have hop : opK 1 (tkK B z q) = none := by unfold opK; simp [c2]
        rw [if_neg (fun r => c2 (ek.mp r)), hop]
        exact ⟨s, rfl, h⟩
theorem fn_And {B : Nat → Nat} {z f : Nat} {rc : Nat → Int32 → zMem → Option (Unit × zMem)} {o : Int32} {s : zMem} (h : cF B z f s) : f_X2_readAnd_7 rc zN o 0 s = some ((), s) := by
  unfold zN
  rw [f_X2_readAnd_7, if_neg (by decide), h.2.1, if_neg (by decide)]
theorem cn_Term {B : Nat → Nat} {z o : Nat} {W : List Nat} {rc : Nat → Int32 → zMem → Option (Unit × zMem)} {g : Nat → zGr} (hg : ∀ q (W : List Nat) s, W.length ≤ q → cOk B z W q s → ∃ S, rc 5 (nI o) s = some ((), S) ∧ cRes B z W (g q) S) (hl : ∀ q q1 D, q ≤ z → g q = .ok (q1, D) → q + D.length ≤ q1 ∧ q1 ≤ z) : ∀ (n i q : Nat) (D : List Nat) (s : zMem), i ≤ 160 → 160 - i < n → W.length + D.length ≤ q → cOk B z (W ++ D) q s → ∃ S, f_X2_readTerm_7 rc n (nI o) (nI i) s = some ((), S) ∧ cRes B z W (chn B z g 4 (160 - i) q D) S := by
  intro n
  induction n with
  | zero => intro i q D s _ h; omega
  | succ n ih =>
    intro i q D s hi hn hw h
    rw [f_X2_readTerm_7]
    by_cases c1 : 160 ≤ i
    · rw [if_pos (show (160 : Int32) ≤ nI i from nI_le (a := 160) c1 (by omega)), show 160 - i = 0 by omega]
      exact ⟨s, rfl, h⟩
    · have ek : (s 5 7 = 42) = (tkK B z q = 42) := c_kd h 42 (by omega)
      rw [if_neg (n160 i (by omega)), show 160 - i = (160 - (i + 1)) + 1 by omega, chn]
      by_cases c2 : tkK B z q = 42
      · have hop : opK 4 (tkK B z q) = some 18 := by rw [c2]; rfl
        have ht := tk_end (B := B) h.2.1
        have hlt := ht.2.2.1 (by omega)
        have hz := h.1.2.1
        rw [if_pos (ek.mpr c2), hop]
        obtain ⟨S1, e1, o1⟩ := c_read h
        obtain ⟨S2, e2, o2⟩ := hg _ (W ++ D) S1 (by simp only [List.length_append]; omega) o1
        rw [e1, bd_s, e2, bd_s]
        cases hgq : g (tkE B z q) with
        | error f =>
          rw [hgq] at o2
          obtain ⟨S3, e3, o3⟩ := f_emit (v := -23) o2
          rw [e3, bd_s, nm_eq, nI_1]
          dsimp only
          cases n with
          | zero => omega
          | succ n =>
            rw [f_X2_readTerm_7]
            refine ⟨S3, ?_, o3⟩
            split
            · rfl
            · rw [o3.2.1, if_neg (by decide)]
        | ok p =>
          obtain ⟨q2, D2⟩ := p
          rw [hgq] at o2
          have h2 := hl _ _ _ ht.1 hgq
          have o2' : cOk B z (W ++ D ++ D2) q2 S2 := o2
          obtain ⟨S3, e3, o3⟩ := c_emit (c := 18) o2' (by simp only [List.length_append]; omega)
          rw [show (-23 : Int32) = encC 18 from rfl, e3, bd_s, nm_eq, nI_1]
          dsimp only
          rw [List.append_assoc, List.append_assoc] at o3
          rw [← List.append_assoc D D2 [18]] at o3
          exact ih (i + 1) q2 _ S3 (by omega) (by omega) (by simp only [List.length_append, List.length_cons, List.length_nil]; omega) o3
      · have hop : opK 4 (tkK B z q) = none := by unfold opK; simp [c2]
        rw [if_neg (fun r => c2 (ek.mp r)), hop]
        exact ⟨s, rfl, h⟩
theorem fn_Term {B : Nat → Nat} {z f : Nat} {rc : Nat → Int32 → zMem → Option (Unit × zMem)} {o : Int32} {s : zMem} (h : cF B z f s) : f_X2_readTerm_7 rc zN o 0 s = some ((), s) := by
  unfold zN
  rw [f_X2_readTerm_7, if_neg (by decide), h.2.1, if_neg (by decide)]

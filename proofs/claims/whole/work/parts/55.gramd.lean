-- sums, and all of the class's reading
theorem cn_Sum {B : Nat → Nat} {z o : Nat} {W : List Nat} {rc : Nat → Int32 → zMem → Option (Unit × zMem)} {g : Nat → zGr} (hg : ∀ q (W : List Nat) s, W.length ≤ q → cOk B z W q s → ∃ S, rc 4 (nI o) s = some ((), S) ∧ cRes B z W (g q) S) (hl : ∀ q q1 D, q ≤ z → g q = .ok (q1, D) → q + D.length ≤ q1 ∧ q1 ≤ z) : ∀ (n i q : Nat) (D : List Nat) (s : zMem), i ≤ 160 → 160 - i < n → W.length + D.length ≤ q → cOk B z (W ++ D) q s → ∃ S, f_X2_readSum_7 rc n (nI o) (nI i) s = some ((), S) ∧ cRes B z W (chn B z g 3 (160 - i) q D) S := by
  intro n
  induction n with
  | zero => intro i q D s _ h; omega
  | succ n ih =>
    intro i q D s hi hn hw h
    rw [f_X2_readSum_7]
    by_cases c1 : 160 ≤ i
    · rw [if_pos (show (160 : Int32) ≤ nI i from nI_le (a := 160) c1 (by omega)), show 160 - i = 0 by omega]
      exact ⟨s, rfl, h⟩
    · have ek : (s 5 7 = 43) = (tkK B z q = 43) := c_kd h 43 (by omega)
      have ek2 : (s 5 7 = 45) = (tkK B z q = 45) := c_kd h 45 (by omega)
      rw [if_neg (n160 i (by omega)), show 160 - i = (160 - (i + 1)) + 1 by omega, chn]
      have go : ∀ (cd : Nat) (cn : Int32), opK 3 (tkK B z q) = some cd → cn = encC cd → ∃ S1 S2 S3, f_X2_readToken s = some ((), S1) ∧ rc 4 (nI o) S1 = some ((), S2) ∧ f_X2_emit cn S2 = some ((), S3) ∧ ∃ S, f_X2_readSum_7 rc n (nI o) (nI (i + 1)) S3 = some ((), S) ∧ cRes B z W (match g (tkE B z q) with
          | .error f => .error f
          | .ok (q2, D2) => chn B z g 3 (160 - (i + 1)) q2 (D ++ D2 ++ [cd])) S := by
        intro cd cn hop hcn
        have ht := tk_end (B := B) h.2.1
        have hlt := ht.2.2.1 (opK_ne hop).1
        have hz := h.1.2.1
        obtain ⟨S1, e1, o1⟩ := c_read h
        obtain ⟨S2, e2, o2⟩ := hg _ (W ++ D) S1 (by simp only [List.length_append]; omega) o1
        cases hgq : g (tkE B z q) with
        | error f =>
          rw [hgq] at o2
          obtain ⟨S3, e3, o3⟩ := f_emit (v := cn) o2
          refine ⟨S1, S2, S3, e1, e2, e3, S3, ?_, o3⟩
          cases n with
          | zero => omega
          | succ n =>
            rw [f_X2_readSum_7]
            split
            · rfl
            · rw [o3.2.1, if_neg (by decide), if_neg (by decide)]
        | ok p =>
          obtain ⟨q2, D2⟩ := p
          rw [hgq] at o2
          have h2 := hl _ _ _ ht.1 hgq
          have o2' : cOk B z (W ++ D ++ D2) q2 S2 := o2
          obtain ⟨S3, e3, o3⟩ := c_emit (c := cd) o2' (by simp only [List.length_append]; omega)
          rw [← hcn] at e3
          rw [List.append_assoc, List.append_assoc] at o3
          rw [← List.append_assoc D D2 [cd]] at o3
          exact ⟨S1, S2, S3, e1, e2, e3, ih (i + 1) q2 _ S3 (by omega) (by omega) (by simp only [List.length_append, List.length_cons, List.length_nil]; omega) o3⟩
      by_cases c2 : tkK B z q = 43
      · have hop : opK 3 (tkK B z q) = some 16 := by rw [c2]; rfl
        obtain ⟨S1, S2, S3, e1, e2, e3, e4⟩ := go 16 (-21) hop rfl
        rw [if_pos (ek.mpr c2), hop]
        unfold f_X2_readSum_32
        rw [if_pos (ek.mpr c2), e1, bd_s, e2, bd_s, e3, bd_s, nm_eq, nI_1]
        exact e4
      · rw [if_neg (fun r => c2 (ek.mp r))]
        by_cases c3 : tkK B z q = 45
        · have hop : opK 3 (tkK B z q) = some 17 := by rw [c3]; rfl
          obtain ⟨S1, S2, S3, e1, e2, e3, e4⟩ := go 17 (-22) hop rfl
          rw [if_pos (ek2.mpr c3), hop]
          unfold f_X2_readSum_32
          rw [if_neg (fun r => c2 (ek.mp r)), e1, bd_s, e2, bd_s, e3, bd_s, nm_eq, nI_1]
          exact e4
        · have hop : opK 3 (tkK B z q) = none := by unfold opK; simp [c2, c3]
          rw [if_neg (fun r => c3 (ek2.mp r)), hop]
          exact ⟨s, rfl, h⟩
theorem fn_Sum {B : Nat → Nat} {z f : Nat} {rc : Nat → Int32 → zMem → Option (Unit × zMem)} {o : Int32} {s : zMem} (h : cF B z f s) : f_X2_readSum_7 rc zN o 0 s = some ((), s) := by
  unfold zN
  rw [f_X2_readSum_7, if_neg (by decide), h.2.1, if_neg (by decide), if_neg (by decide)]
theorem rd_k (n k : Nat) (o : Int32) (s : zMem) : f_rd (n + 1) k o s = (if k = 0 then fb_X2_readOr (f_rd n) o s else if k = 1 then fb_X2_readAnd (f_rd n) o s else if k = 2 then fb_X2_readNot (f_rd n) o s else if k = 3 then fb_X2_readSum (f_rd n) o s else if k = 4 then fb_X2_readTerm (f_rd n) o s else if k = 5 then fb_X2_readOne (f_rd n) o s else none) := rfl
/-- behind a fault all reading ends at once -/
theorem rd_fail {B : Nat → Nat} {z f : Nat} : ∀ (n k : Nat) (o : Int32) (s : zMem), k ≤ 5 → 6 - k ≤ n → cF B z f s → ∃ S, f_rd n k o s = some ((), S) ∧ cF B z f S := by
  intro n
  induction n with
  | zero => intro k o s hk hn _; omega
  | succ n ih =>
    intro k o s hk hn h
    have h7 := h.2.1
    rcases (by omega : k = 0 ∨ k = 1 ∨ k = 2 ∨ k = 3 ∨ k = 4 ∨ k = 5) with rfl | rfl | rfl | rfl | rfl | rfl
    · obtain ⟨S, e, o1⟩ := ih 1 o s (by omega) (by omega) h
      refine ⟨S, ?_, o1⟩
      rw [rd_k, if_pos rfl]
      unfold fb_X2_readOr
      rw [e, bd_s, fn_Or o1]
    · obtain ⟨S, e, o1⟩ := ih 2 o s (by omega) (by omega) h
      refine ⟨S, ?_, o1⟩
      rw [rd_k, if_neg (by omega), if_pos rfl]
      unfold fb_X2_readAnd
      rw [e, bd_s, fn_And o1]
    · obtain ⟨S, e, o1⟩ := ih 3 o s (by omega) (by omega) h
      refine ⟨S, ?_, o1⟩
      rw [rd_k, if_neg (by omega), if_neg (by omega), if_pos rfl]
      unfold fb_X2_readNot
      rw [h7, if_neg (by decide), e, bd_s, o1.2.1, if_neg (by decide), if_neg (by decide)]
    · obtain ⟨S, e, o1⟩ := ih 4 o s (by omega) (by omega) h
      refine ⟨S, ?_, o1⟩
      rw [rd_k, if_neg (by omega), if_neg (by omega), if_neg (by omega), if_pos rfl]
      unfold fb_X2_readSum
      rw [e, bd_s, fn_Sum o1]
    · obtain ⟨S, e, o1⟩ := ih 5 o s (by omega) (by omega) h
      refine ⟨S, ?_, o1⟩
      rw [rd_k, if_neg (by omega), if_neg (by omega), if_neg (by omega), if_neg (by omega), if_pos rfl]
      unfold fb_X2_readTerm
      rw [e, bd_s, fn_Term o1]
    · obtain ⟨S, e, o1⟩ := f_fail h
      refine ⟨S, ?_, o1⟩
      rw [rd_k, if_neg (by omega), if_neg (by omega), if_neg (by omega), if_neg (by omega), if_neg (by omega), if_pos rfl]
      unfold fb_X2_readOne
      rw [h7, if_neg (by decide), if_neg (by decide), if_neg (by decide), if_neg (by decide), e, bd_s]
theorem c_opens {B : Nat → Nat} {z q o : Nat} {W : List Nat} {s : zMem} (h : cOk B z W q s) (ho : o ≤ 5) : ∃ S, (o < 5 → f_X2_opens (nI o) s = some (1, S) ∧ cOk B z W (tkE B z q) S) ∧ (¬ o < 5 → f_X2_opens (nI o) s = some (0, S) ∧ cF B z (tkB B z q) S) := by
  unfold f_X2_opens
  by_cases c : o < 5
  · obtain ⟨S, e, o1⟩ := c_read h
    refine ⟨S, fun _ => ⟨?_, o1⟩, fun r => absurd c r⟩
    rw [if_pos (show nI o < (5 : Int32) from nI_lt (b := 5) c (by omega)), e, bd_s]
  · obtain ⟨S, e, o1⟩ := c_fail h
    refine ⟨S, fun r => absurd r c, fun _ => ⟨?_, o1⟩⟩
    rw [if_neg (show ¬ nI o < (5 : Int32) from nI_nlt (b := 5) (by omega) (by omega)), e, bd_s]
theorem tkV_nm {B : Nat → Nat} {z q : Nat} (h : tkK B z q = 3) : tkV B z q < 6 := by
  unfold tkK at h
  unfold tkV
  split at h
  · omega
  · split at h
    · rename_i c2
      rw [if_pos c2]
      unfold kdW at h
      split at h
      · omega
      · split at h
        · omega
        · split at h
          · omega
          · rcases wixF_s B (tkB B z q) (tkE B z q) 12 0 rfl with ⟨h1, _⟩ | ⟨_, h2, _⟩ <;> (unfold wix at *; omega)
    · split at h
      · split at h <;> omega
      · split at h
        · rename_i c4
          rw [h] at c4
          exact absurd c4 (by decide)
        · omega
theorem rd_gr {B : Nat → Nat} {z : Nat} : ∀ (n k o q : Nat) (W : List Nat) (s : zMem), k ≤ 5 → o ≤ 5 → (5 - o) * 6 + (6 - k) ≤ n → W.length ≤ q → cOk B z W q s → ∃ S, f_rd n k (nI o) s = some ((), S) ∧ cRes B z W (gr B z n k o q) S := by
  intro n
  induction n with
  | zero => intro k o q W s hk ho hn; omega
  | succ n ih =>
    intro k o q W s hk ho hn hw h
    have hq := h.2.1
    have hz := h.1.2.1
    have ht := tk_end (B := B) hq
    have chain : k = 0 ∨ k = 1 ∨ k = 3 ∨ k = 4 → ∃ S, f_rd n (k + 1) (nI o) s = some ((), S) ∧ ((∃ f, gr B z (n + 1) k o q = .error f ∧ cF B z f S) ∨ ∃ q1 D, gr B z (n + 1) k o q = chn B z (gr B z n (k + 1) o) k 160 q1 D ∧ cOk B z (W ++ D) q1 S ∧ W.length + D.length ≤ q1) := by
      intro hk2
      obtain ⟨S, e, o1⟩ := ih (k + 1) o q W s (by omega) ho (by omega) hw h
      refine ⟨S, e, ?_⟩
      rw [gr, if_neg (by omega), if_neg (by omega)]
      cases hgq : gr B z n (k + 1) o q with
      | error f => rw [hgq] at o1; exact Or.inl ⟨f, rfl, o1⟩
      | ok p =>
        obtain ⟨q1, D⟩ := p
        rw [hgq] at o1
        have := gr_len _ _ _ _ _ _ hq hgq
        exact Or.inr ⟨q1, D, rfl, o1, by omega⟩
    rcases (by omega : k = 0 ∨ k = 1 ∨ k = 2 ∨ k = 3 ∨ k = 4 ∨ k = 5) with rfl | rfl | rfl | rfl | rfl | rfl
    · obtain ⟨S, e, hc⟩ := chain (by omega)
      rw [rd_k, if_pos rfl]
      unfold fb_X2_readOr
      rw [e, bd_s]
      rcases hc with ⟨f, e2, o2⟩ | ⟨q1, D, e2, o2, hl⟩
      · rw [e2, fn_Or o2]; exact ⟨S, rfl, o2⟩
      · rw [e2, ← zn0]
        exact cn_Or (fun q W s a b => ih 1 o q W s (by omega) ho (by omega) a b) (fun q q1 D a b => gr_len _ _ _ _ _ _ a b) zN 0 q1 D S (by omega) (by unfold zN; omega) hl o2
    · obtain ⟨S, e, hc⟩ := chain (by omega)
      rw [rd_k, if_neg (by omega), if_pos rfl]
      unfold fb_X2_readAnd
      rw [e, bd_s]
      rcases hc with ⟨f, e2, o2⟩ | ⟨q1, D, e2, o2, hl⟩
      · rw [e2, fn_And o2]; exact ⟨S, rfl, o2⟩
      · rw [e2, ← zn0]
        exact cn_And (fun q W s a b => ih 2 o q W s (by omega) ho (by omega) a b) (fun q q1 D a b => gr_len _ _ _ _ _ _ a b) zN 0 q1 D S (by omega) (by unfold zN; omega) hl o2
    · rw [rd_k, if_neg (by omega), if_neg (by omega), if_pos rfl, gr, if_pos rfl]
      unfold fb_X2_readNot gNot
      have ek : (s 5 7 = 9) = (tkK B z q = 9) := c_kd h 9 (by omega)
      by_cases c1 : tkK B z q = 9
      · have hlt := ht.2.2.1 (by omega)
        rw [if_pos (ek.mpr c1), if_pos c1]
        obtain ⟨S1, y, nn⟩ := c_opens h ho
        by_cases c2 : o < 5
        · obtain ⟨e1, o1⟩ := y c2
          obtain ⟨S2, e2, o2⟩ := ih 2 (o + 1) _ W S1 (by omega) (by omega) (by omega) (by omega) o1
          rw [e1, bd_s, if_neg (by decide), nI_1, e2, bd_s, if_pos c2]
          cases hgq : gr B z n 2 (o + 1) (tkE B z q) with
          | error f =>
            rw [hgq] at o2
            obtain ⟨S3, e3, o3⟩ := f_emit (v := -12) o2
            rw [e3, bd_s]
            exact ⟨S3, rfl, o3⟩
          | ok p =>
            obtain ⟨q2, D2⟩ := p
            rw [hgq] at o2
            have h2 := gr_len _ _ _ _ _ _ ht.1 hgq
            have o2' : cOk B z (W ++ D2) q2 S2 := o2
            obtain ⟨S3, e3, o3⟩ := c_emit (c := 13) o2' (by simp only [List.length_append]; omega)
            rw [show (-12 : Int32) = encC 13 from rfl, e3, bd_s]
            rw [List.append_assoc] at o3
            exact ⟨S3, rfl, o3⟩
        · obtain ⟨e1, o1⟩ := nn c2
          rw [e1, bd_s, if_pos rfl, if_neg c2]
          exact ⟨S1, rfl, o1⟩
      · rw [if_neg (fun r => c1 (ek.mp r)), if_neg c1]
        obtain ⟨S1, e1, o1⟩ := ih 3 o q W s (by omega) ho (by omega) hw h
        rw [e1, bd_s]
        cases hgq : gr B z n 3 o q with
        | error f =>
          rw [hgq] at o1
          rw [o1.2.1, if_neg (by decide), if_neg (by decide)]
          exact ⟨S1, rfl, o1⟩
        | ok p =>
          obtain ⟨q1, D⟩ := p
          rw [hgq] at o1
          have h1 := gr_len _ _ _ _ _ _ hq hgq
          have o1' : cOk B z (W ++ D) q1 S1 := o1
          have ek1 : (S1 5 7 = 60) = (tkK B z q1 = 60) := c_kd o1' 60 (by omega)
          have ek2 : (S1 5 7 = 61) = (tkK B z q1 = 61) := c_kd o1' 61 (by omega)
          have ht1 := tk_end (B := B) h1.2
          have go : ∀ (cd : Nat) (cn : Int32), (tkK B z q1 = 60 ∨ tkK B z q1 = 61) → cn = encC cd → ∃ S2 S3 S4, f_X2_readToken S1 = some ((), S2) ∧ f_rd n 3 (nI o) S2 = some ((), S3) ∧ f_X2_emit cn S3 = some ((), S4) ∧ cRes B z W (match gr B z n 3 o (tkE B z q1) with
              | .error f => .error f
              | .ok (q2, D2) => .ok (q2, D ++ D2 ++ [cd])) S4 := by
            intro cd cn hkd hcn
            have hlt := ht1.2.2.1 (by omega)
            obtain ⟨S2, e2, o2⟩ := c_read o1'
            obtain ⟨S3, e3, o3⟩ := ih 3 o _ (W ++ D) S2 (by omega) ho (by omega) (by simp only [List.length_append]; omega) o2
            cases hgr : gr B z n 3 o (tkE B z q1) with
            | error f =>
              rw [hgr] at o3
              obtain ⟨S4, e4, o4⟩ := f_emit (v := cn) o3
              exact ⟨S2, S3, S4, e2, e3, e4, o4⟩
            | ok p =>
              obtain ⟨q2, D2⟩ := p
              rw [hgr] at o3
              have h2 := gr_len _ _ _ _ _ _ ht1.1 hgr
              have o3' : cOk B z (W ++ D ++ D2) q2 S3 := o3
              obtain ⟨S4, e4, o4⟩ := c_emit (c := cd) o3' (by simp only [List.length_append]; omega)
              rw [← hcn] at e4
              rw [List.append_assoc, List.append_assoc, ← List.append_assoc D D2 [cd]] at o4
              exact ⟨S2, S3, S4, e2, e3, e4, o4⟩
          dsimp only
          by_cases c2 : tkK B z q1 = 60
          · obtain ⟨S2, S3, S4, e2, e3, e4, o4⟩ := go 14 (-24) (Or.inl c2) rfl
            rw [if_pos (ek1.mpr c2), if_pos (Or.inl c2), if_pos c2]
            unfold f_X2_readNot_54
            rw [if_pos (ek1.mpr c2), e2, bd_s, e3, bd_s, e4, bd_s]
            exact ⟨S4, rfl, o4⟩
          · rw [if_neg (fun r => c2 (ek1.mp r)), if_neg c2]
            by_cases c3 : tkK B z q1 = 61
            · obtain ⟨S2, S3, S4, e2, e3, e4, o4⟩ := go 15 (-25) (Or.inr c3) rfl
              rw [if_pos (ek2.mpr c3), if_pos (Or.inr c3)]
              unfold f_X2_readNot_54
              rw [if_neg (fun r => c2 (ek1.mp r)), e2, bd_s, e3, bd_s, e4, bd_s]
              exact ⟨S4, rfl, o4⟩
            · rw [if_neg (fun r => c3 (ek2.mp r)), if_neg (by omega)]
              exact ⟨S1, rfl, o1'⟩
    · obtain ⟨S, e, hc⟩ := chain (by omega)
      rw [rd_k, if_neg (by omega), if_neg (by omega), if_neg (by omega), if_pos rfl]
      unfold fb_X2_readSum
      rw [e, bd_s]
      rcases hc with ⟨f, e2, o2⟩ | ⟨q1, D, e2, o2, hl⟩
      · rw [e2, fn_Sum o2]; exact ⟨S, rfl, o2⟩
      · rw [e2, ← zn0]
        exact cn_Sum (fun q W s a b => ih 4 o q W s (by omega) ho (by omega) a b) (fun q q1 D a b => gr_len _ _ _ _ _ _ a b) zN 0 q1 D S (by omega) (by unfold zN; omega) hl o2
    · obtain ⟨S, e, hc⟩ := chain (by omega)
      rw [rd_k, if_neg (by omega), if_neg (by omega), if_neg (by omega), if_neg (by omega), if_pos rfl]
      unfold fb_X2_readTerm
      rw [e, bd_s]
      rcases hc with ⟨f, e2, o2⟩ | ⟨q1, D, e2, o2, hl⟩
      · rw [e2, fn_Term o2]; exact ⟨S, rfl, o2⟩
      · rw [e2, ← zn0]
        exact cn_Term (fun q W s a b => ih 5 o q W s (by omega) ho (by omega) a b) (fun q q1 D a b => gr_len _ _ _ _ _ _ a b) zN 0 q1 D S (by omega) (by unfold zN; omega) hl o2
    · rw [rd_k, if_neg (by omega), if_neg (by omega), if_neg (by omega), if_neg (by omega), if_neg (by omega), if_pos rfl, gr, if_neg (by omega), if_pos rfl]
      unfold fb_X2_readOne gOne
      have ek2 : (s 5 7 = 2) = (tkK B z q = 2) := c_kd h 2 (by omega)
      have ek3 : (s 5 7 = 3) = (tkK B z q = 3) := c_kd h 3 (by omega)
      have ek45 : (s 5 7 = 45) = (tkK B z q = 45) := c_kd h 45 (by omega)
      have ek40 : (s 5 7 = 40) = (tkK B z q = 40) := c_kd h 40 (by omega)
      by_cases c2 : tkK B z q = 2
      · have hlt := ht.2.2.1 (by omega)
        have h8 := h.2.2.2.2.2.2.1 (Or.inl c2)
        rw [if_pos (ek2.mpr c2), if_pos c2]
        unfold f_X2_readOne_16
        obtain ⟨S1, e1, o1⟩ := c_emit (c := 100000 + tkV B z q) h (by omega)
        obtain ⟨S2, e2, o2⟩ := c_read o1
        rw [if_pos (ek2.mpr c2), h8, show nI (tkV B z q) = encC (100000 + tkV B z q) by unfold encC; rw [if_pos (by omega), Nat.add_sub_cancel_left], e1, bd_s, e2, bd_s]
        exact ⟨S2, rfl, o2⟩
      · rw [if_neg (fun r => c2 (ek2.mp r)), if_neg c2]
        by_cases c3 : tkK B z q = 3
        · have hlt := ht.2.2.1 (by omega)
          have h8 := h.2.2.2.2.2.2.1 (Or.inr c3)
          have hv := tkV_nm c3
          have hcat : f_X0_ofName (nI (tkV B z q)) s = some (encC (tkV B z q), s) := by
            unfold f_X0_ofName encC
            rw [if_neg (by omega), if_pos hv]
          rw [if_pos (ek3.mpr c3), if_pos c3]
          unfold f_X2_readOne_16
          obtain ⟨S1, e1, o1⟩ := c_emit (c := tkV B z q) h (by omega)
          obtain ⟨S2, e2, o2⟩ := c_read o1
          rw [if_neg (fun r => c2 (ek2.mp r)), h8, hcat, bd_s, e1, bd_s, e2, bd_s]
          exact ⟨S2, rfl, o2⟩
        · rw [if_neg (fun r => c3 (ek3.mp r)), if_neg c3]
          by_cases c45 : tkK B z q = 45
          · have hlt := ht.2.2.1 (by omega)
            rw [if_pos (ek45.mpr c45), if_pos c45]
            obtain ⟨S1, y, nn⟩ := c_opens h ho
            by_cases c5 : o < 5
            · obtain ⟨e1, o1⟩ := y c5
              obtain ⟨S2, e2, o2⟩ := ih 5 (o + 1) _ W S1 (by omega) (by omega) (by omega) (by omega) o1
              rw [e1, bd_s, if_neg (by decide), nI_1, e2, bd_s, if_pos c5]
              cases hgq : gr B z n 5 (o + 1) (tkE B z q) with
              | error f =>
                rw [hgq] at o2
                obtain ⟨S3, e3, o3⟩ := f_emit (v := -11) o2
                rw [e3, bd_s]
                exact ⟨S3, rfl, o3⟩
              | ok p =>
                obtain ⟨q2, D2⟩ := p
                rw [hgq] at o2
                have h2 := gr_len _ _ _ _ _ _ ht.1 hgq
                have o2' : cOk B z (W ++ D2) q2 S2 := o2
                obtain ⟨S3, e3, o3⟩ := c_emit (c := 19) o2' (by simp only [List.length_append]; omega)
                rw [show (-11 : Int32) = encC 19 from rfl, e3, bd_s]
                rw [List.append_assoc] at o3
                exact ⟨S3, rfl, o3⟩
            · obtain ⟨e1, o1⟩ := nn c5
              rw [e1, bd_s, if_pos rfl, if_neg c5]
              exact ⟨S1, rfl, o1⟩
          · rw [if_neg (fun r => c45 (ek45.mp r)), if_neg c45]
            by_cases c40 : tkK B z q = 40
            · have hlt := ht.2.2.1 (by omega)
              rw [if_pos (ek40.mpr c40), if_pos c40]
              obtain ⟨S1, y, nn⟩ := c_opens h ho
              by_cases c5 : o < 5
              · obtain ⟨e1, o1⟩ := y c5
                obtain ⟨S2, e2, o2⟩ := ih 0 (o + 1) _ W S1 (by omega) (by omega) (by omega) (by omega) o1
                rw [e1, bd_s, if_neg (by decide), nI_1, e2, bd_s, if_pos c5]
                unfold f_X2_expect
                cases hgq : gr B z n 0 (o + 1) (tkE B z q) with
                | error f =>
                  rw [hgq] at o2
                  obtain ⟨S3, e3, o3⟩ := f_fail o2
                  rw [o2.2.1, if_neg (by decide), e3, bd_s, bd_s]
                  exact ⟨S3, rfl, o3⟩
                | ok p =>
                  obtain ⟨q2, D2⟩ := p
                  rw [hgq] at o2
                  have o2' : cOk B z (W ++ D2) q2 S2 := o2
                  have ek41 : (S2 5 7 = 41) = (tkK B z q2 = 41) := c_kd o2' 41 (by omega)
                  dsimp only
                  by_cases c41 : tkK B z q2 = 41
                  · obtain ⟨S3, e3, o3⟩ := c_read o2'
                    rw [if_pos (ek41.mpr c41), if_pos c41, e3, bd_s, bd_s]
                    exact ⟨S3, rfl, o3⟩
                  · obtain ⟨S3, e3, o3⟩ := c_fail o2'
                    rw [if_neg (fun r => c41 (ek41.mp r)), if_neg c41, e3, bd_s, bd_s]
                    exact ⟨S3, rfl, o3⟩
              · obtain ⟨e1, o1⟩ := nn c5
                rw [e1, bd_s, if_pos rfl, if_neg c5]
                exact ⟨S1, rfl, o1⟩
            · obtain ⟨S1, e1, o1⟩ := c_fail h
              rw [if_neg (fun r => c40 (ek40.mp r)), if_neg c40, e1, bd_s]
              exact ⟨S1, rfl, o1⟩

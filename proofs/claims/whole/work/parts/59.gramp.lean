-- steps of the model's loop
abbrev d7 (H : List Nat) : List Nat := H.dropWhile (fun u => decide (7 ≤ rk u))
abbrev t7 (H : List Nat) : List Nat := H.takeWhile (fun u => decide (7 ≤ rk u))
theorem st_val {B : Nat → Nat} {z K q : Nat} {H W : List Nat} {s : zMem} {c : zMem → Option (Int32 × zMem)} {n : Nat} {m : Int32} (h : mLp B z K H W q s) (hk : tkK B z q = 2 ∨ tkK B z q = 3) : ∃ S, f_X7_eRead_14 c (n + 1) 1 m s = f_X7_eRead_14 c n 0 m S ∧ mLp B z K (d7 H) (W ++ [if tkK B z q = 2 then 100000 + tkV B z q else tkV B z q] ++ t7 H) (tkE B z q) S := by
  have hq := h.2.2.1
  have hz := h.1.2.1
  have hl := h.2.2.2.2.2
  have ht := tk_end (B := B) hq
  have hlt := ht.2.2.1 (by omega)
  obtain ⟨S1, e1, x1⟩ := m_next h
  have hK := tkK_le (B := B) (z := z) (q := q) (fun i hi => (h.1.2.2 i hi).2)
  obtain ⟨a1, a2, _⟩ := tkM_at _ hK
  have go : ∀ v : Nat, ∃ S2 S3, f_X7_puts (nI v) S1 = some ((), S2) ∧ f_X7_unwinds 7 S2 = some ((), S3) ∧ mLp B z K (d7 H) (W ++ [v] ++ t7 H) (tkE B z q) S3 := by
    intro v
    obtain ⟨S2, e2, m2, f2⟩ := m_puts (v := v) x1.2.2.2.2.2.2.2 (by omega)
    have x2 := x1.fr m2 (fun a k g1 g2 _ => f2 a k (by omega) g2)
    obtain ⟨S3, e3, m3, f3⟩ := m_unw (l := 7) (by omega) (by omega) zN H (W ++ [v]) S2 m2 (by unfold zN; omega)
    have x3 := x2.fr m3 (fun a k g1 g2 _ => f3 a k g1 g2)
    have hll := lv_len (fun u => decide (7 ≤ rk u)) H
    exact ⟨S2, S3, e2, e3, x3.lp hq (by simp only [List.length_append, List.length_cons, List.length_nil]; omega)⟩
  rw [f_X7_eRead_14, e1, bd_s, if_neg (by decide), x1.2.2.2.2.1]
  rcases hk with k2 | k3
  · rw [if_pos (a1.mpr k2), if_pos k2]
    unfold f_X7_eRead_38
    obtain ⟨S2, S3, e2, e3, o3⟩ := go (100000 + tkV B z q)
    rw [x1.2.2.2.2.1, if_pos (a1.mpr k2), x1.2.2.2.2.2.1 (Or.inl k2), show (100000 : Int32) = nI 100000 from rfl, nI_add, e2, bd_s, e3, bd_s]
    exact ⟨S3, rfl, o3⟩
  · have n2 : ¬ tkK B z q = 2 := by omega
    rw [if_neg (fun r => n2 (a1.mp r)), if_pos (a2.mpr k3), if_neg n2]
    unfold f_X7_eRead_38
    obtain ⟨S2, S3, e2, e3, o3⟩ := go (tkV B z q)
    rw [x1.2.2.2.2.1, if_neg (fun r => n2 (a1.mp r)), x1.2.2.2.2.2.1 (Or.inr k3), e2, bd_s, e3, bd_s]
    exact ⟨S3, rfl, o3⟩

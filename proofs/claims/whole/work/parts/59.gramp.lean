-- steps of the model's loop
abbrev d7 (H : List Nat) : List Nat := H.dropWhile (fun u => decide (7 ≤ rk u))
abbrev t7 (H : List Nat) : List Nat := H.takeWhile (fun u => decide (7 ≤ rk u))
theorem st_val {B : Nat → Nat} {z K q : Nat} {H W : List Nat} {s : zMem} {c : zMem → Option (Int32 × zMem)} {n : Nat} {m : Int32} (h : mLp B z K H W q s) (hk : tkK B z q = 2 ∨ tkK B z q = 3) : ∃ S, f_X7_eRead_14 c (n + 1) 1 m s = f_X7_eRead_14 c n 0 m S ∧ mLp B z K (d7 H) (W ++ [if tkK B z q = 2 then 100000 + tkV B z q else tkV B z q] ++ t7 H) (tkE B z q) S := by
  have hq := h.2.2.1
  have hz := h.1.2.1
  have hl := h.2.2.2.2.2
  have ht := tk_end (B := B) hq
  have hlt := ht.2.2.1 (by omega)
  obtain ⟨S1, e1, x1⟩ := m_next h
  have hK := tkK_le (B := B) (z := z) (q := q) (fun i hi => (h.1.2.2 i hi).2)
  obtain ⟨a1, a2, _⟩ := tkM_at _ hK
  have go : ∀ v : Nat, ∃ S2 S3, f_X7_puts (nI v) S1 = some ((), S2) ∧ f_X7_unwinds 7 S2 = some ((), S3) ∧ mLp B z K (d7 H) (W ++ [v] ++ t7 H) (tkE B z q) S3 := by
    intro v
    obtain ⟨S2, e2, m2, f2⟩ := m_puts (v := v) x1.2.2.2.2.2.2.2 (by omega)
    have x2 := x1.fr m2 (fun a k g1 g2 _ => f2 a k (by omega) g2)
    obtain ⟨S3, e3, m3, f3⟩ := m_unw (l := 7) (by omega) (by omega) zN H (W ++ [v]) S2 m2 (by unfold zN; omega)
    have x3 := x2.fr m3 (fun a k g1 g2 _ => f3 a k g1 g2)
    have hll := lv_len (fun u => decide (7 ≤ rk u)) H
    exact ⟨S2, S3, e2, e3, x3.lp hq (by simp only [List.length_append, List.length_cons, List.length_nil]; omega)⟩
  rw [f_X7_eRead_14, e1, bd_s, if_neg (by decide), x1.2.2.2.2.1]
  rcases hk with k2 | k3
  · rw [if_pos (a1.mpr k2), if_pos k2]
    unfold f_X7_eRead_38
    obtain ⟨S2, S3, e2, e3, o3⟩ := go (100000 + tkV B z q)
    rw [x1.2.2.2.2.1, if_pos (a1.mpr k2), x1.2.2.2.2.2.1 (Or.inl k2), show (100000 : Int32) = nI 100000 from rfl, nI_add, e2, bd_s, e3, bd_s]
    exact ⟨S3, rfl, o3⟩
  · have n2 : ¬ tkK B z q = 2 := by omega
    rw [if_neg (fun r => n2 (a1.mp r)), if_pos (a2.mpr k3), if_neg n2]
    unfold f_X7_eRead_38
    obtain ⟨S2, S3, e2, e3, o3⟩ := go (tkV B z q)
    rw [x1.2.2.2.2.1, if_neg (fun r => n2 (a1.mp r)), x1.2.2.2.2.2.1 (Or.inr k3), e2, bd_s, e3, bd_s]
    exact ⟨S3, rfl, o3⟩
/-- a sign that opens: refused when five are open, else held -/
theorem op_go {B : Nat → Nat} {z K q v : Nat} {H W : List Nat} {s : zMem} (h : mLp B z K H W q s) (hk : tkK B z q ≠ 0) {S1 : zMem} (x1 : mNx B z K H W q S1) (hv : v = 0 ∨ v = 13 ∨ v = 19) : (cntO H = 5 → f_X7_opensOne (nI v) S1 = some (0, S1)) ∧ (cntO H ≠ 5 → ∃ S, f_X7_opensOne (nI v) S1 = some (1, S) ∧ mLp B z K (v :: H) W (tkE B z q) S ∧ cntO (v :: H) = cntO H + 1) := by
  have hq := h.2.2.1
  have hz := h.1.2.1
  have hl := h.2.2.2.2.2
  have ht := tk_end (B := B) hq
  have hlt := ht.2.2.1 hk
  obtain ⟨o1, o2⟩ := m_opensOne (v := v) x1.2.2.2.2.2.2.2 hv (by omega)
  refine ⟨o1, fun c => ?_⟩
  obtain ⟨S, e, m, hc, f⟩ := o2 c
  exact ⟨S, e, (x1.fr m f).lp hq (by simp only [List.length_cons]; omega), hc⟩
theorem st_not {B : Nat → Nat} {z K q : Nat} {H W : List Nat} {s : zMem} {c : zMem → Option (Int32 × zMem)} {n : Nat} (h : mLp B z K H W q s) (hk : tkK B z q = 9) : (cntO H = 5 → ∃ S, f_X7_eRead_14 c (n + 1) 1 1 s = some (0, S) ∧ S 47 24 = nI (tkB B z q)) ∧ (cntO H ≠ 5 → ∃ S, f_X7_eRead_14 c (n + 1) 1 1 s = f_X7_eRead_14 c n 1 1 S ∧ mLp B z K (13 :: H) W (tkE B z q) S ∧ cntO (13 :: H) = cntO H + 1) := by
  obtain ⟨S1, e1, x1⟩ := m_next h
  obtain ⟨o1, o2⟩ := op_go (v := 13) h (by omega) x1 (by omega)
  have e25 := x1.2.2.2.2.1
  rw [hk] at e25
  rw [f_X7_eRead_14, e1, bd_s, if_neg (by decide), e25, if_neg (by decide), if_neg (by decide), if_pos (by decide), if_neg (by decide)]
  refine ⟨fun r => ?_, fun r => ?_⟩
  · have := o1 r
    rw [show nI 13 = (13 : Int32) from rfl] at this
    rw [this, bd_s, if_pos rfl]
    exact ⟨S1, rfl, x1.2.2.2.1⟩
  · obtain ⟨S, e, m, hc⟩ := o2 r
    rw [show nI 13 = (13 : Int32) from rfl] at e
    rw [e, bd_s, if_neg (by decide)]
    exact ⟨S, rfl, m, hc⟩
theorem st_neg {B : Nat → Nat} {z K q : Nat} {H W : List Nat} {s : zMem} {c : zMem → Option (Int32 × zMem)} {n : Nat} {m : Int32} (h : mLp B z K H W q s) (hk : tkK B z q = 45) : (cntO H = 5 → ∃ S, f_X7_eRead_14 c (n + 1) 1 m s = some (0, S) ∧ S 47 24 = nI (tkB B z q)) ∧ (cntO H ≠ 5 → ∃ S, f_X7_eRead_14 c (n + 1) 1 m s = f_X7_eRead_14 c n 1 0 S ∧ mLp B z K (19 :: H) W (tkE B z q) S ∧ cntO (19 :: H) = cntO H + 1) := by
  obtain ⟨S1, e1, x1⟩ := m_next h
  obtain ⟨o1, o2⟩ := op_go (v := 19) h (by omega) x1 (by omega)
  have e25 := x1.2.2.2.2.1
  rw [hk] at e25
  rw [f_X7_eRead_14, e1, bd_s, if_neg (by decide), e25, if_neg (by decide), if_neg (by decide), if_neg (by decide)]
  unfold f_X7_eRead_99
  rw [e25, if_pos (by decide)]
  refine ⟨fun r => ?_, fun r => ?_⟩
  · have := o1 r
    rw [show nI 19 = (19 : Int32) from rfl] at this
    rw [this, bd_s, if_pos rfl]
    exact ⟨S1, rfl, x1.2.2.2.1⟩
  · obtain ⟨S, e, m, hc⟩ := o2 r
    rw [show nI 19 = (19 : Int32) from rfl] at e
    rw [e, bd_s, if_neg (by decide)]
    exact ⟨S, rfl, m, hc⟩
theorem st_par {B : Nat → Nat} {z K q : Nat} {H W : List Nat} {s : zMem} {c : zMem → Option (Int32 × zMem)} {n : Nat} {m : Int32} (h : mLp B z K H W q s) (hk : tkK B z q = 40) : (cntO H = 5 → ∃ S, f_X7_eRead_14 c (n + 1) 1 m s = some (0, S) ∧ S 47 24 = nI (tkB B z q)) ∧ (cntO H ≠ 5 → ∃ S, f_X7_eRead_14 c (n + 1) 1 m s = f_X7_eRead_14 c n 1 1 S ∧ mLp B z K (0 :: H) W (tkE B z q) S ∧ cntO (0 :: H) = cntO H + 1) := by
  obtain ⟨S1, e1, x1⟩ := m_next h
  obtain ⟨o1, o2⟩ := op_go (v := 0) h (by omega) x1 (by omega)
  have e25 := x1.2.2.2.2.1
  rw [hk] at e25
  rw [f_X7_eRead_14, e1, bd_s, if_neg (by decide), e25, if_neg (by decide), if_neg (by decide), if_neg (by decide)]
  unfold f_X7_eRead_99
  rw [e25, if_neg (by decide), if_pos (by decide)]
  refine ⟨fun r => ?_, fun r => ?_⟩
  · have := o1 r
    rw [show nI 0 = (0 : Int32) from rfl] at this
    rw [this, bd_s, if_pos rfl]
    exact ⟨S1, rfl, x1.2.2.2.1⟩
  · obtain ⟨S, e, m, hc⟩ := o2 r
    rw [show nI 0 = (0 : Int32) from rfl] at e
    rw [e, bd_s, if_neg (by decide)]
    exact ⟨S, rfl, m, hc⟩
/-- nothing that can stand where a value is wanted -/
theorem st_bad {B : Nat → Nat} {z K q : Nat} {H W : List Nat} {s : zMem} {c : zMem → Option (Int32 × zMem)} {n : Nat} {m : Int32} (h : mLp B z K H W q s) (h2 : tkK B z q ≠ 2) (h3 : tkK B z q ≠ 3) (h45 : tkK B z q ≠ 45) (h40 : tkK B z q ≠ 40) (h9 : tkK B z q = 9 → m = 0) : ∃ S, f_X7_eRead_14 c (n + 1) 1 m s = some (0, S) ∧ S 47 24 = nI (tkB B z q) := by
  obtain ⟨S1, e1, x1⟩ := m_next h
  have hK := tkK_le (B := B) (z := z) (q := q) (fun i hi => (h.1.2.2 i hi).2)
  obtain ⟨a1, a2, a3, a4, a5, a6, a7, a8, a9, a10, a11, _⟩ := tkM_at _ hK
  have e25 := x1.2.2.2.2.1
  rw [f_X7_eRead_14, e1, bd_s, if_neg (by decide), e25, if_neg (fun r => h2 (a1.mp r)), if_neg (fun r => h3 (a2.mp r))]
  have e99 : f_X7_eRead_99 (fun x y s => f_X7_eRead_14 c n x y s) 1 S1 = some (0, S1) := by
    unfold f_X7_eRead_99
    rw [e25, if_neg (fun r => h45 (a10.mp r)), if_neg (fun r => h40 (a11.mp r))]
  by_cases c9 : tkK B z q = 9
  · rw [if_pos (a6.mpr c9), if_pos (h9 c9), e99]
    exact ⟨S1, rfl, x1.2.2.2.1⟩
  · rw [if_neg (fun r => c9 (a6.mp r)), e99]
    exact ⟨S1, rfl, x1.2.2.2.1⟩
/-- behind a value: a sign between two -/
theorem st_op {B : Nat → Nat} {z K q v : Nat} {H W : List Nat} {s : zMem} {c : zMem → Option (Int32 × zMem)} {n : Nat} {m : Int32} (h : mLp B z K H W q s) (hs : sgn (tkK B z q) = some v) : ((decide (rk v = 4) && tk4 (H.dropWhile (fun u => decide (lvB v ≤ rk u)))) = true → ∃ S, f_X7_eRead_14 c (n + 1) 0 m s = some (0, S) ∧ S 47 24 = nI (tkB B z q)) ∧ ((decide (rk v = 4) && tk4 (H.dropWhile (fun u => decide (lvB v ≤ rk u)))) = false → ∃ S, f_X7_eRead_14 c (n + 1) 0 m s = f_X7_eRead_14 c n 1 (if v ≤ 12 then 1 else 0) S ∧ mLp B z K (v :: H.dropWhile (fun u => decide (lvB v ≤ rk u))) (W ++ H.takeWhile (fun u => decide (lvB v ≤ rk u))) (tkE B z q) S) := by
  have hq := h.2.2.1
  have hz := h.1.2.1
  have hl := h.2.2.2.2.2
  have ht := tk_end (B := B) hq
  obtain ⟨S1, e1, x1⟩ := m_next h
  have hK := tkK_le (B := B) (z := z) (q := q) (fun i hi => (h.1.2.2 i hi).2)
  obtain ⟨a1, a2, a3, a4, a5, a6, a7, a8, a9, a10, a11, _⟩ := tkM_at _ hK
  have e25 := x1.2.2.2.2.1
  have hsg := m_signOf x1 hK
  rw [hs] at hsg
  have hkv : isO2 v ∧ tkK B z q ≠ 0 ∧ tkK B z q ≠ 59 ∧ tkK B z q ≠ 41 := by
    unfold sgn at hs
    unfold isO2
    repeat' split at hs
    all_goals first | (injection hs with hs; omega) | cases hs
  have hlt := ht.2.2.1 hkv.2.1
  obtain ⟨S2, e2, m2, f2⟩ := m_between (v := v) x1.2.2.2.2.2.2.2 hkv.1 (by omega)
  have hll := lv_len (fun u => decide (lvB v ≤ rk u)) H
  have hv20 : 11 ≤ v ∧ v < 19 := by have := hkv.1; unfold isO2 at this; omega
  rw [f_X7_eRead_14, e1, bd_s, if_pos rfl, e25, if_neg (fun r => hkv.2.2.1 (a8.mp r)), if_neg (fun r => hkv.2.2.2 (a9.mp r)), hsg, bd_s]
  dsimp only
  rw [if_neg (nIm1 (by omega)), e2, bd_s]
  refine ⟨fun r => ?_, fun r => ?_⟩
  · rw [if_pos r, if_pos rfl]
    exact ⟨S2, rfl, by rw [f2 _ _ (by omega) (by omega) (by omega)]; exact x1.2.2.2.1⟩
  · rw [if_neg (by rw [r]; decide)]
    refine ⟨S2, ?_, (x1.fr (m2 r) f2).lp hq (by simp only [List.length_append, List.length_cons]; omega)⟩
    by_cases c12 : v ≤ 12
    · rw [if_pos c12, if_neg (show ¬ (12 : Int32) < nI v from nI_nlt (a := 12) c12 (by omega))]
    · rw [if_neg c12, if_pos (show (12 : Int32) < nI v from nI_lt (a := 12) (by omega) (by omega))]
/-- behind a value: neither ; nor ) nor a sign between two -/
theorem st_none {B : Nat → Nat} {z K q : Nat} {H W : List Nat} {s : zMem} {c : zMem → Option (Int32 × zMem)} {n : Nat} {m : Int32} (h : mLp B z K H W q s) (hs : sgn (tkK B z q) = none) (h59 : tkK B z q ≠ 59) (h41 : tkK B z q ≠ 41) : ∃ S, f_X7_eRead_14 c (n + 1) 0 m s = some (0, S) ∧ S 47 24 = nI (tkB B z q) := by
  obtain ⟨S1, e1, x1⟩ := m_next h
  have hK := tkK_le (B := B) (z := z) (q := q) (fun i hi => (h.1.2.2 i hi).2)
  obtain ⟨a1, a2, a3, a4, a5, a6, a7, a8, a9, a10, a11, _⟩ := tkM_at _ hK
  have e25 := x1.2.2.2.2.1
  have hsg := m_signOf x1 hK
  rw [hs] at hsg
  rw [f_X7_eRead_14, e1, bd_s, if_pos rfl, e25, if_neg (fun r => h59 (a8.mp r)), if_neg (fun r => h41 (a9.mp r)), hsg, bd_s]
  dsimp only
  rw [if_pos rfl]
  exact ⟨S1, rfl, x1.2.2.2.1⟩
/-- behind a value: ; -/
theorem st_end {B : Nat → Nat} {z K q : Nat} {H W : List Nat} {s : zMem} {c : zMem → Option (Int32 × zMem)} {n : Nat} {m : Int32} (h : mLp B z K H W q s) (h59 : tkK B z q = 59) : ∃ S, f_X7_eRead_14 c (n + 1) 0 m s = c S ∧ mNx B z K H W q S := by
  obtain ⟨S1, e1, x1⟩ := m_next h
  have e25 := x1.2.2.2.2.1
  rw [h59] at e25
  rw [f_X7_eRead_14, e1, bd_s, if_pos rfl, e25, if_pos (by decide)]
  exact ⟨S1, rfl, x1⟩
abbrev d1 (H : List Nat) : List Nat := H.dropWhile (fun u => decide (1 ≤ rk u))
abbrev t1 (H : List Nat) : List Nat := H.takeWhile (fun u => decide (1 ≤ rk u))
/-- behind a value: ) -/
theorem st_close {B : Nat → Nat} {z K q : Nat} {H W : List Nat} {s : zMem} {c : zMem → Option (Int32 × zMem)} {n : Nat} {m : Int32} (h : mLp B z K H W q s) (h41 : tkK B z q = 41) : (d1 H = [] → ∃ S, f_X7_eRead_14 c (n + 1) 0 m s = some (0, S) ∧ S 47 24 = nI (tkB B z q)) ∧ (∀ H2, d1 H = 0 :: H2 → ∃ S, f_X7_eRead_14 c (n + 1) 0 m s = f_X7_eRead_14 c n 0 m S ∧ mLp B z K (d7 H2) (W ++ t1 H ++ t7 H2) (tkE B z q) S) := by
  have hq := h.2.2.1
  have hz := h.1.2.1
  have hl := h.2.2.2.2.2
  have ht := tk_end (B := B) hq
  have hlt := ht.2.2.1 (by omega)
  obtain ⟨S1, e1, x1⟩ := m_next h
  have e25 := x1.2.2.2.2.1
  rw [h41] at e25
  obtain ⟨S2, e2, m2, f2⟩ := m_unw (l := 1) (by omega) (by omega) zN H W S1 x1.2.2.2.2.2.2.2 (by unfold zN; omega)
  have hll : (t1 H).length + (d1 H).length = H.length := lv_len (fun u => decide (1 ≤ rk u)) H
  have e2' : f_X7_unwinds 1 S1 = some ((), S2) := e2
  have m2' : mSt K (d1 H) (W ++ t1 H) S2 := m2
  have x2 := x1.fr m2' (fun a k g1 g2 _ => f2 a k g1 g2)
  rw [f_X7_eRead_14, e1, bd_s, if_pos rfl, e25, if_neg (by decide), if_pos (by decide), e2', bd_s, m2'.2.2.1]
  refine ⟨fun r => ?_, fun H2 r => ?_⟩
  · rw [r, if_pos (show nI ([] : List Nat).length = 0 from rfl)]
    exact ⟨S2, rfl, x2.2.2.2.1⟩
  · rw [r] at m2' hll ⊢
    simp only [List.length_cons] at hll
    obtain ⟨k1, k2, k3, k4, k5, k6, k7, k8, k9⟩ := id m2'
    have hc : cntO (0 :: H2) = cntO H2 + 1 := rfl
    have ne : ¬ nI (0 :: H2).length = 0 := fun q => by
      have e0 : (nI (0 :: H2).length = 0) = ((0 :: H2).length = 0) := nI_lit 0 (by simp only [List.length_cons]; omega) (by omega)
      rw [e0] at q
      simp at q
    rw [if_neg ne, nm_eq, zUp_off (by omega), k4, hc, List.length_cons, ← zn1, nI_sub (by omega), nI_sub (by omega), nm_eq, Nat.add_sub_cancel, Nat.add_sub_cancel]
    have m3 : mSt K H2 (W ++ t1 H) (zUp (zUp S2 47 29 (nI H2.length)) 47 30 (nI (cntO H2))) := ⟨by rw [zUp_off (by omega), zUp_off (by omega), k1], k2, by rw [zUp_off (by omega), zUp_hit], zUp_hit _ _ _ _, by rw [zUp_off (by omega), zUp_off (by omega), k5], k6.2.of (fun k => by rw [zUp_off (by omega), zUp_off (by omega)]), fun v hv => k7 v (List.mem_cons_of_mem _ hv), fun i hi => by rw [zUp_off (by omega), zUp_off (by omega), k8 i hi], by simp only [List.length_cons] at k9; omega⟩
    have x3 := x2.fr m3 (fun a k g1 g2 _ => by rw [zUp_off (by omega), zUp_off (by omega)])
    obtain ⟨S4, e4, m4, f4⟩ := m_unw (l := 7) (by omega) (by omega) zN H2 (W ++ t1 H) _ m3 (by unfold zN; omega)
    have hl7 := lv_len (fun u => decide (7 ≤ rk u)) H2
    have e4' : f_X7_unwinds 7 (zUp (zUp S2 47 29 (nI H2.length)) 47 30 (nI (cntO H2))) = some ((), S4) := e4
    rw [e4', bd_s]
    exact ⟨S4, rfl, (x3.fr m4 (fun a k g1 g2 _ => f4 a k g1 g2)).lp hq (by simp only [List.length_append]; omega)⟩

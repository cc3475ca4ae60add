-- a sign between two, and one that opens
def tk4 (H : List Nat) : Bool := match H with
  | [] => false
  | a :: _ => decide (rk a = 4)
def lvB (v : Nat) : Nat := if rk v = 4 then 5 else rk v
theorem lv_len (f : Nat → Bool) : ∀ H : List Nat, (H.takeWhile f).length + (H.dropWhile f).length = H.length := by
  intro H
  rw [← List.length_append, List.takeWhile_append_dropWhile]
theorem m_between {K v : Nat} {H W : List Nat} {s : zMem} (h : mSt K H W s) (hv : isO2 v) (hl : W.length + H.length < 160) : ∃ S, f_X7_between (nI v) s = some (if (decide (rk v = 4) && tk4 (H.dropWhile (fun u => decide (lvB v ≤ rk u)))) = true then 0 else 1, S) ∧ ((decide (rk v = 4) && tk4 (H.dropWhile (fun u => decide (lvB v ≤ rk u)))) = false → mSt K (v :: H.dropWhile (fun u => decide (lvB v ≤ rk u))) (W ++ H.takeWhile (fun u => decide (lvB v ≤ rk u))) S) ∧ ∀ a k, ¬ (a = 47 ∧ (k = 29 ∨ k = 30 ∨ k = 31)) → a ≠ 56 → a ≠ 65 → S a k = s a k := by
  have hs : sgOk v := by unfold sgOk isO2 at *; omega
  have hlv : 1 ≤ lvB v ∧ lvB v < 8 := by
    rcases (by unfold isO2 at hv; omega : v = 11 ∨ v = 12 ∨ v = 14 ∨ v = 15 ∨ v = 16 ∨ v = 17 ∨ v = 18) with rfl | rfl | rfl | rfl | rfl | rfl | rfl <;> decide
  have hop : isOp v = false := by
    rcases (by unfold isO2 at hv; omega : v = 11 ∨ v = 12 ∨ v = 14 ∨ v = 15 ∨ v = 16 ∨ v = 17 ∨ v = 18) with rfl | rfl | rfl | rfl | rfl | rfl | rfl <;> rfl
  have hH : H.length < zN := by unfold zN; omega
  obtain ⟨S1, e1, m1, f1⟩ := m_unw hlv.1 hlv.2 zN H W s h hH
  have hll := lv_len (fun u => decide (lvB v ≤ rk u)) H
  have hbt : f_X7_between (nI v) s = f_X7_between_17 (nI v) (nI (lvB v)) s := by
    have hr := rk_le v
    have e4 : (nI (rk v) = 4) = (rk v = 4) := nI_lit 4 (by omega) (by omega)
    unfold f_X7_between lvB
    rw [m_rank hs, bd_s]
    by_cases c : rk v = 4
    · rw [if_pos (e4.mpr c), if_pos c]; rfl
    · rw [if_neg (fun r => c (e4.mp r)), if_neg c, m_rank hs, bd_s]
  rw [hbt]
  unfold f_X7_between_17 f_X7_unwinds
  rw [e1, bd_s, m_rank hs, bd_s]
  generalize H.dropWhile (fun u => decide (lvB v ≤ rk u)) = H' at m1 hll ⊢
  generalize H.takeWhile (fun u => decide (lvB v ≤ rk u)) = T' at m1 hll ⊢
  have hold : ∃ S, f_X7_holds (nI v) S1 = some ((), S) ∧ mSt K (v :: H') (W ++ T') S ∧ ∀ a k, ¬ (a = 47 ∧ (k = 29 ∨ k = 30 ∨ k = 31)) → a ≠ 56 → a ≠ 65 → S a k = s a k := by
    obtain ⟨S2, e2, _, g2, f2⟩ := m_holds (v := v) m1 hs (by simp only [List.length_append]; omega)
    refine ⟨S2, e2, g2 S2 (fun _ _ _ => rfl) ?_, fun a k h1 h2 h3 => by rw [f2 a k (by omega) h3, f1 a k h1 h2]⟩
    rw [f2 _ _ (by omega) (by omega), m1.2.2.2.1]
    show nI (cntO H') = nI (cntO H' + if isOp v = true then 1 else 0)
    rw [hop]
    rfl
  have hr := rk_le v
  have e4 : (nI (rk v) = 4) = (rk v = 4) := nI_lit 4 (by omega) (by omega)
  by_cases c : rk v = 4
  · rw [if_pos (e4.mpr c), decide_eq_true c, Bool.true_and, m1.2.2.1]
    have hlen := m1.2.2.2.2.2.2.2.2
    rw [zif_le0 (by omega)]
    cases H' with
    | nil =>
      rw [if_pos (show ([] : List Nat).length = 0 from rfl)]
      obtain ⟨S2, e2, m2, f2⟩ := hold
      rw [e2, bd_s]
      exact ⟨S2, rfl, fun _ => m2, f2⟩
    | cons a t =>
      simp only [List.length_append, List.length_cons] at hlen
      have em : nI (a :: t).length - 1 = nI t.length := by rw [List.length_cons, ← zn1, nI_sub (by omega), show t.length + 1 - 1 = t.length by omega]
      have ha := m1.2.2.2.2.2.2.1 a (List.mem_cons_self ..)
      have hra := rk_le a
      have ea : (nI (rk a) = 4) = (rk a = 4) := nI_lit 4 (by omega) (by omega)
      rw [if_neg (by simp), em, gd_t (zib_nI (by omega) (by decide)), zix_nI (by omega), m1.2.2.2.2.2.1.1, m_rank ha, bd_s]
      by_cases c2 : rk a = 4
      · rw [if_pos (ea.mpr c2)]
        have : tk4 (a :: t) = true := decide_eq_true c2
        rw [this]
        exact ⟨S1, rfl, (fun r => by cases r), fun a k h1 h2 _ => f1 a k h1 h2⟩
      · rw [if_neg (fun r => c2 (ea.mp r))]
        have : tk4 (a :: t) = false := decide_eq_false c2
        rw [this]
        obtain ⟨S2, e2, m2, f2⟩ := hold
        rw [e2, bd_s]
        exact ⟨S2, rfl, fun _ => m2, f2⟩
  · rw [if_neg (fun r => c (e4.mp r)), decide_eq_false c, Bool.false_and]
    obtain ⟨S2, e2, m2, f2⟩ := hold
    rw [e2, bd_s]
    exact ⟨S2, rfl, fun _ => m2, f2⟩
theorem m_opensOne {K v : Nat} {H W : List Nat} {s : zMem} (h : mSt K H W s) (hv : v = 0 ∨ v = 13 ∨ v = 19) (hl : W.length + H.length < 160) : (cntO H = 5 → f_X7_opensOne (nI v) s = some (0, s)) ∧ (cntO H ≠ 5 → ∃ S, f_X7_opensOne (nI v) s = some (1, S) ∧ mSt K (v :: H) W S ∧ cntO (v :: H) = cntO H + 1 ∧ ∀ a k, ¬ (a = 47 ∧ (k = 29 ∨ k = 30 ∨ k = 31)) → a ≠ 56 → a ≠ 65 → S a k = s a k) := by
  have hs : sgOk v := by unfold sgOk; omega
  have hc : ∀ H : List Nat, cntO H ≤ H.length := by
    intro H
    induction H with
    | nil => exact Nat.le_refl _
    | cons a t ih =>
      unfold cntO
      simp only [List.length_cons]
      split <;> omega
  have h5 := hc H
  have hop : isOp v = true := by rcases hv with rfl | rfl | rfl <;> rfl
  have hcn : cntO (v :: H) = cntO H + 1 := by
    show cntO H + (if isOp v = true then 1 else 0) = cntO H + 1
    rw [if_pos hop]
  have e5 : (nI (cntO H) = 5) = (cntO H = 5) := nI_lit 5 (by omega) (by omega)
  unfold f_X7_opensOne
  rw [h.2.2.2.1]
  refine ⟨fun c => by rw [if_pos (e5.mpr c)], fun c => ?_⟩
  rw [if_neg (fun r => c (e5.mp r)), nI_1, nm_eq]
  obtain ⟨h1, h2, h3, h4, h6, h7, h8, h9, h10⟩ := id h
  -- the count of what is open stands ahead of the sign's own
  have e3 : f_X7_holds (nI v) (zUp s 47 30 (nI (cntO H + 1))) = some ((), zUp (zUp (zUp s 47 30 (nI (cntO H + 1))) 65 H.length (nI v)) 47 29 (nI (H.length + 1))) := by
    unfold f_X7_holds
    rw [zUp_off (by omega), h3, gd_t (zib_nI (by omega) (by decide)), nm_eq, zix_nI (by omega), zUp_off (by omega), zUp_off (by omega), h3, nI_1, nm_eq]
  rw [e3, bd_s]
  have off : ∀ a k, ¬ (a = 47 ∧ (k = 29 ∨ k = 30)) → a ≠ 65 → zUp (zUp (zUp s 47 30 (nI (cntO H + 1))) 65 H.length (nI v)) 47 29 (nI (H.length + 1)) a k = s a k := fun a k g1 g2 => by rw [zUp_off (by omega), zUp_off (by omega), zUp_off (by omega)]
  refine ⟨_, rfl, ⟨by rw [off _ _ (by omega) (by omega), h1], h2, by rw [zUp_hit]; rfl, ?_, by rw [off _ _ (by omega) (by omega), h6], ⟨by rw [zUp_off (by omega), zUp_hit], ?_⟩, ?_, fun i hi => by rw [off _ _ (by omega) (by omega), h9 i hi], by simp only [List.length_cons]; omega⟩, hcn, fun a k g1 g2 g3 => off a k (by omega) g3⟩
  · rw [zUp_off (by omega), zUp_off (by omega), zUp_hit, hcn]
  · exact hdS.of (fun k => by rw [zUp_off (by omega)]) (hdS_up (hdS.of (fun k => by rw [zUp_off (by omega)]) h7) (Nat.le_refl _))
  · intro u hu
    rcases List.mem_cons.mp hu with rfl | hu
    · exact hs
    · exact h8 u hu

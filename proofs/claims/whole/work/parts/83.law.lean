-- the law's loop
theorem lawc {x y : zMem → Option (Int32 × zMem)} (h : stepOk x y) {s : zMem} (hs : zRl s) {k k0 : zMem → Option (Int32 × zMem)} (hk : ∀ S, zRl S → ∃ S', k S = some (1, S')) : ∃ S', (bd (x s) fun r s1 => bd (y s1) fun r2 s2 => if r = r2 then k s2 else k0 s2) = some (1, S') := by
  obtain ⟨v, S, S', e1, e2, hr⟩ := h s hs
  rw [e1, bd_s, e2, bd_s, if_pos rfl]
  exact hk S' hr
theorem lawc8 {x y : zMem → Option (Int64 × zMem)} (h : stepOk x y) {s : zMem} (hs : zRl s) {k k0 : zMem → Option (Int32 × zMem)} (hk : ∀ S, zRl S → ∃ S', k S = some (1, S')) : ∃ S', (bd (x s) fun r s1 => bd (y s1) fun r2 s2 => if lg_cmp r r2 = 0 then k s2 else k0 s2) = some (1, S') := by
  obtain ⟨v, S, S', e1, e2, hr⟩ := h s hs
  rw [e1, bd_s, e2, bd_s, if_pos ((lg_cmp_eq v v).mpr rfl)]
  exact hk S' hr
set_option maxRecDepth 20000 in
set_option maxHeartbeats 4000000 in
theorem law_loop (xs : Nat → Int32) {L : Nat} (hL : L ≤ 3584) : ∀ (n i : Nat) (s : zMem), zRl s → L + 7 - i < n → i ≤ L → ∃ S, f_law_18 xs L n (nI i) s = some (1, S) := by
  intro n
  induction n with
  | zero => intro i s _ hn; omega
  | succ n ih =>
    intro i s hs hn hi
    rw [f_law_18]
    have e7 : (nI L - 7 < nI i) ↔ L < i + 7 := by
      rw [Int32.lt_iff_toInt_lt, show nI L - 7 = nI L - nI 7 from rfl, pk_sub_toInt (by omega) (by omega), nI_toInt (by omega)]
      omega
    by_cases q : L < i + 7
    · rw [if_pos (e7.mpr q)]
      exact ⟨s, rfl⟩
    · have next : ∀ S, zRl S → ∃ S', f_law_18 xs L n (nI (i + 7)) S = some (1, S') := fun S hS => ih (i + 7) S hS (by omega) (by omega)
      have a2 : nI i + 2 = nI (i + 2) := nI_add i 2
      have a3 : nI i + 3 = nI (i + 3) := nI_add i 3
      have a4 : nI i + 4 = nI (i + 4) := nI_add i 4
      have a5 : nI i + 5 = nI (i + 5) := nI_add i 5
      have a6 : nI i + 6 = nI (i + 6) := nI_add i 6
      have a7 : nI i + 7 = nI (i + 7) := nI_add i 7
      have g : ∀ j, j < 7 → zib (nI (i + j)) L = true := fun j hj => zib_nI (by omega) (by omega)
      rw [if_neg (fun r => q (e7.mp r)), gd_t (show zib (nI i) L = true from g 0 (by omega)), nm_eq]
      generalize (xs (zix (nI i)) &&& 63) = y
      rw [nI_1, a2, a3, a4, a5, a6, a7]
      simp only [gd_t (g 1 (by omega)), gd_t (g 2 (by omega)), gd_t (g 3 (by omega)), gd_t (g 4 (by omega)), gd_t (g 5 (by omega)), gd_t (g 6 (by omega)), nm_eq]
      by_cases c0 : y = 0
      · rw [if_pos c0]
        exact lawc (step_count _) hs next
      rw [if_neg c0]
      by_cases c1 : y = 1
      · rw [if_pos c1]
        exact lawc (step_feed _ _ _ _ _ _) hs next
      rw [if_neg c1]
      by_cases c2 : y = 2
      · rw [if_pos c2]
        exact lawc (step_text) hs next
      rw [if_neg c2]
      by_cases c3 : y = 3
      · rw [if_pos c3]
        exact lawc (step_force _) hs next
      rw [if_neg c3]
      by_cases c4 : y = 4
      · rw [if_pos c4]
        exact lawc (step_asks _ _ _) hs next
      rw [if_neg c4]
      by_cases c5 : y = 5
      · rw [if_pos c5]
        exact lawc (step_hut _ _) hs next
      rw [if_neg c5]
      by_cases c6 : y = 6
      · rw [if_pos c6]
        exact lawc (step_put _ _ _) hs next
      rw [if_neg c6]
      by_cases c7 : y = 7
      · rw [if_pos c7]
        exact lawc (step_told _ _) hs next
      rw [if_neg c7]
      by_cases c8 : y = 8
      · rw [if_pos c8]
        exact lawc (step_lend _ _) hs next
      rw [if_neg c8]
      by_cases c9 : y = 9
      · rw [if_pos c9]
        exact lawc (step_loan _ _) hs next
      rw [if_neg c9]
      by_cases c10 : y = 10
      · rw [if_pos c10]
        exact lawc (step_repay _) hs next
      rw [if_neg c10]
      by_cases c11 : y = 11
      · rw [if_pos c11]
        exact lawc (step_forgive _) hs next
      rw [if_neg c11]
      by_cases c12 : y = 12
      · rw [if_pos c12]
        exact lawc (step_night) hs next
      rw [if_neg c12]
      by_cases c13 : y = 13
      · rw [if_pos c13]
        exact lawc (step_run _ _) hs next
      rw [if_neg c13]
      by_cases c14 : y = 14
      · rw [if_pos c14]
        exact lawc (step_lasts _ _) hs next
      rw [if_neg c14]
      by_cases c15 : y = 15
      · rw [if_pos c15]
        exact lawc (step_net _) hs next
      rw [if_neg c15]
      by_cases c16 : y = 16
      · rw [if_pos c16]
        exact lawc (step_settle _) hs next
      rw [if_neg c16]
      by_cases c17 : y = 17
      · rw [if_pos c17]
        exact lawc (step_source _) hs next
      rw [if_neg c17]
      by_cases c18 : y = 18
      · rw [if_pos c18]
        exact lawc (step_rings _) hs next
      rw [if_neg c18]
      by_cases c19 : y = 19
      · rw [if_pos c19]
        exact lawc (step_ask _ _ _) hs next
      rw [if_neg c19]
      by_cases c20 : y = 20
      · rw [if_pos c20]
        exact lawc (step_needs _ _) hs next
      rw [if_neg c20]
      by_cases c21 : y = 21
      · rw [if_pos c21]
        exact lawc (step_mercy _ _) hs next
      rw [if_neg c21]
      by_cases c22 : y = 22
      · rw [if_pos c22]
        exact lawc (step_worst _ _) hs next
      rw [if_neg c22]
      by_cases c23 : y = 23
      · rw [if_pos c23]
        exact lawc (step_judge _ _) hs next
      rw [if_neg c23]
      by_cases c24 : y = 24
      · rw [if_pos c24]
        exact lawc (step_kinds _ _ _) hs next
      rw [if_neg c24]
      by_cases c25 : y = 25
      · rw [if_pos c25]
        exact lawc (step_states _ _ _ _) hs next
      rw [if_neg c25]
      by_cases c26 : y = 26
      · rw [if_pos c26]
        exact lawc (step_whose _) hs next
      rw [if_neg c26]
      by_cases c27 : y = 27
      · rw [if_pos c27]
        exact lawc (step_laws _ _) hs next
      rw [if_neg c27]
      by_cases c28 : y = 28
      · rw [if_pos c28]
        exact lawc (step_film _ _ _) hs next
      rw [if_neg c28]
      by_cases c29 : y = 29
      · rw [if_pos c29]
        exact lawc (step_drawn _ _ _) hs next
      rw [if_neg c29]
      by_cases c30 : y = 30
      · rw [if_pos c30]
        exact lawc8 (step_odds _ _ _ _ _) hs next
      rw [if_neg c30]
      by_cases c31 : y = 31
      · rw [if_pos c31]
        exact lawc (step_image) hs next
      rw [if_neg c31]
      by_cases c32 : y = 32
      · rw [if_pos c32]
        exact lawc (step_back) hs next
      rw [if_neg c32]
      by_cases c33 : y = 33
      · rw [if_pos c33]
        exact lawc (step_sheet _ _ _) hs next
      rw [if_neg c33]
      by_cases c34 : y = 34
      · rw [if_pos c34]
        exact lawc (step_cell _ _ _) hs next
      rw [if_neg c34]
      by_cases c35 : y = 35
      · rw [if_pos c35]
        exact lawc (step_copy _ _ _ _ _) hs next
      rw [if_neg c35]
      by_cases c36 : y = 36
      · rw [if_pos c36]
        exact lawc (step_hutsBy _ _ _ _) hs next
      rw [if_neg c36]
      by_cases c37 : y = 37
      · rw [if_pos c37]
        exact lawc (step_taken _ _) hs next
      rw [if_neg c37]
      exact next s hs
theorem law_ok (xs : Nat → Int32) (L : Nat) (hL : L ≤ 3584) (s0 : zMem) : ∃ S, f_law xs L s0 = some (1, S) := by
  unfold f_law
  obtain ⟨S1, e1, hc⟩ := c_init s0
  obtain ⟨S2, e2, hm, f2⟩ := m_init S1
  rw [nm_eq, e1, bd_s, nm_eq, e2, bd_s]
  have hc2 : zRC T00 T00 P00 1 0 0 b0 Z00 S2 := hc.of (fun a k hk => f2 a k (by unfold cC at hk; omega))
  exact law_loop xs hL zN 0 S2 ⟨T00, T00, P00, 1, 0, 0, b0, Z00, RX00, hc2, hm⟩ (by unfold zN; omega) (by omega)

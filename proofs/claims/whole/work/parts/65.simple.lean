-- steps: what only looks
theorem step_r {α : Type} {x y : zMem → Option (α × zMem)} (h : ∀ T U P K F z B Z s, zRX T U P K F Z → zRC T U P K F z B Z s → zRM T U P K F z B Z s → ∃ v, x s = some (v, s) ∧ y s = some (v, s)) : stepOk x y := by
  intro s hs
  obtain ⟨T, U, P, K, F, z, B, Z, hx, hc, hm⟩ := id hs
  obtain ⟨v, e1, e2⟩ := h T U P K F z B Z s hx hc hm
  exact ⟨v, s, s, e1, e2, hs⟩
theorem step_count (p : Int32) : stepOk (f_X6_count p) (f_X7_count p) := by
  refine step_r fun T U P K F z B Z s hx hc hm => ?_
  obtain ⟨d0, d1, d2, d3⟩ := hc.1.c0
  obtain ⟨m0, m1, m2, m3⟩ := hm.1.c0
  unfold f_X6_count f_X7_count
  by_cases c0 : p = 0
  · exact ⟨nI (T 9 0), by rw [if_pos c0, d0], by rw [if_pos c0, m0]⟩
  rw [if_neg c0, if_neg c0]
  by_cases c1 : p = 1
  · exact ⟨nI (T 9 1), by rw [if_pos c1, d1], by rw [if_pos c1, m1]⟩
  rw [if_neg c1, if_neg c1]
  by_cases c2 : p = 2
  · exact ⟨nI (T 9 2), by rw [if_pos c2, d2], by rw [if_pos c2, m2]⟩
  rw [if_neg c2, if_neg c2]
  by_cases c3 : p = 3
  · exact ⟨nI (heatT T), by rw [if_pos c3, k_heat hc.1 hx.1, bd_s], by rw [if_pos c3, m_heat hm.1 hx.1, bd_s]⟩
  rw [if_neg c3, if_neg c3]
  by_cases c4 : p = 4
  · exact ⟨nI K, by rw [if_pos c4, hc.2.2.1], by rw [if_pos c4, hm.2.2.1]⟩
  rw [if_neg c4, if_neg c4]
  by_cases c5 : p = 5
  · exact ⟨nI (T 9 3), by rw [if_pos c5, d3], by rw [if_pos c5, m3]⟩
  rw [if_neg c5, if_neg c5]
  by_cases c6 : p = 6
  · exact ⟨nI z, by rw [if_pos c6, hc.2.2.2.1.1], by rw [if_pos c6, hm.2.2.2.1.1]⟩
  rw [if_neg c6, if_neg c6]
  exact ⟨_, rfl, rfl⟩
theorem k_state {w j h : Nat} {T : zT} {s : zMem} (hr : rC w s T) (h6 : T 9 0 ≤ 6) (hj : j < 3) (hh : h < T 9 0) : f_X5_stateOf w (nI h) (nI j) s = some (nI (T j h), s) := by
  unfold f_X5_stateOf
  rcases (by omega : j = 0 ∨ j = 1 ∨ j = 2) with rfl | rfl | rfl
  · rw [if_pos (show nI 0 = 0 from rfl), gd_t (zib_nI (by omega) (by decide)), zix_nI (by omega), (hr.ch hh).1]
  · rw [if_neg (by decide), if_pos (show nI 1 = 1 from rfl), gd_t (zib_nI (by omega) (by decide)), zix_nI (by omega), (hr.ch hh).2.1]
  · rw [if_neg (by decide), if_neg (by decide), gd_t (zib_nI (by omega) (by decide)), zix_nI (by omega), (hr.ch hh).2.2.1]
theorem n3mj (h j : Nat) : (3 : Int32) * nI h + nI j = nI (3 * h + j) := by rw [n3m, nI_add]
theorem rM.cj {j h : Nat} {T : zT} {s : zMem} (hr : rM s T) (hj : j < 3) (hh : h < T 9 0) : s 50 (3 * h + j) = nI (T j h) := by
  rcases (by omega : j = 0 ∨ j = 1 ∨ j = 2) with rfl | rfl | rfl
  · exact (hr.ch hh).1
  · exact (hr.ch hh).2.1
  · exact (hr.ch hh).2.2.1
theorem step_told (p what : Int32) : stepOk (f_X6_told p what) (f_X7_told p what) := by
  refine step_r fun T U P K F z B Z s hx hc hm => ?_
  have h6 := hx.1.1
  unfold f_X6_told f_X7_told
  rw [k_hutP p hc.1.c0.1, bd_s, zif01, m_hutP p hm.1.c0.1 (by omega), bd_s, zif01]
  rcases ltP p (T 9 0) (by omega) with hn | ⟨h, hh, rfl⟩
  · exact ⟨_, by rw [if_neg hn], by rw [if_neg hn]⟩
  rw [if_pos (ltP_t hh (by omega)), if_pos (ltP_t hh (by omega))]
  have hst : ∀ j, j < 3 → what = nI j → (bd (f_X5_stateOf 9 (nI h) what s) fun r3 s4 => some (r3, s4)) = some (nI (T j h), s) ∧ (gd (zib ((3 * nI h) + what) 18) <| some (s 50 (zix ((3 * nI h) + what)), s)) = some (nI (T j h), s) := by
    intro j hj e
    rw [e, k_state hc.1 h6 hj hh, bd_s, n3mj, gd_t (zib_nI (by omega) (by decide)), zix_nI (by omega), hm.1.cj hj hh]
    exact ⟨rfl, rfl⟩
  by_cases c0 : what = 0
  · obtain ⟨e1, e2⟩ := hst 0 (by omega) c0
    exact ⟨nI (T 0 h), by rw [if_pos c0]; exact e1, by rw [if_pos c0]; exact e2⟩
  rw [if_neg c0, if_neg c0]
  by_cases c1 : what = 1
  · obtain ⟨e1, e2⟩ := hst 1 (by omega) c1
    exact ⟨nI (T 1 h), by rw [if_pos c1]; exact e1, by rw [if_pos c1]; exact e2⟩
  rw [if_neg c1, if_neg c1]
  by_cases c2 : what = 2
  · obtain ⟨e1, e2⟩ := hst 2 (by omega) c2
    exact ⟨nI (T 2 h), by rw [if_pos c2]; exact e1, by rw [if_pos c2]; exact e2⟩
  rw [if_neg c2, if_neg c2]
  have kc := hc.1.ch hh
  have km := hm.1.ch hh
  by_cases c3 : what = 3
  · exact ⟨nI (T 3 h), by rw [if_pos c3, gd_t (zib_nI (by omega) (by decide)), zix_nI (by omega), kc.2.2.2.1], by rw [if_pos c3, gd_t (zib_nI (by omega) (by decide)), zix_nI (by omega), km.2.2.2.1]⟩
  rw [if_neg c3, if_neg c3]
  by_cases c4 : what = 4
  · exact ⟨nI (T 4 h), by rw [if_pos c4, gd_t (zib_nI (by omega) (by decide)), zix_nI (by omega), kc.2.2.2.2], by rw [if_pos c4, gd_t (zib_nI (by omega) (by decide)), zix_nI (by omega), km.2.2.2.2]⟩
  rw [if_neg c4, if_neg c4]
  by_cases c5 : what = 5
  · exact ⟨nI (owesT T h), by rw [if_pos c5, k_owes hc.1 hx.1 (by omega), bd_s], by rw [if_pos c5, m_owedBy hm.1 hx.1 (by omega), bd_s]⟩
  rw [if_neg c5, if_neg c5]
  by_cases c6 : what = 6
  · exact ⟨nI (owedT T h), by rw [if_pos c6, k_isOwed hc.1 hx.1 (by omega), bd_s], by rw [if_pos c6, m_owedTo hm.1 hx.1 (by omega), bd_s]⟩
  rw [if_neg c6, if_neg c6]
  by_cases c7 : what = 7
  · exact ⟨nI (fromT T h), by rw [if_pos c7, k_from hc.1 hx.1 (by omega), bd_s], by rw [if_pos c7, m_from hm.1 hx.1 (by omega), bd_s]⟩
  rw [if_neg c7, if_neg c7]
  exact ⟨_, rfl, rfl⟩
theorem step_loan (p what : Int32) : stepOk (f_X6_loan p what) (f_X7_loan p what) := by
  refine step_r fun T U P K F z B Z s hx hc hm => ?_
  have h10 := hx.1.2.1
  unfold f_X6_loan f_X7_loan
  rw [k_loanP p hc.1.c0.2.1, bd_s, zif01, m_loanP p hm.1.c0.2.1 (by omega), bd_s, zif01]
  rcases ltP p (T 9 1) (by omega) with hn | ⟨h, hh, rfl⟩
  · exact ⟨_, by rw [if_neg hn], by rw [if_neg hn]⟩
  rw [if_pos (ltP_t hh (by omega)), if_pos (ltP_t hh (by omega))]
  have kc := hc.1.cl hh
  have km := hm.1.cl hh
  have g10 : zib (nI h) 10 = true := zib_nI (by omega) (by decide)
  have x10 : zix (nI h) = h := zix_nI (by omega)
  by_cases c0 : what = 0
  · exact ⟨nI (T 5 h), by rw [if_pos c0, gd_t g10, x10, kc.1], by rw [if_pos c0, gd_t g10, x10, km.1]⟩
  rw [if_neg c0, if_neg c0]
  by_cases c1 : what = 1
  · exact ⟨nI (T 6 h), by rw [if_pos c1, gd_t g10, x10, kc.2.1], by rw [if_pos c1, gd_t g10, x10, km.2.1]⟩
  rw [if_neg c1, if_neg c1]
  by_cases c2 : what = 2
  · exact ⟨nI (T 7 h), by rw [if_pos c2, gd_t g10, x10, kc.2.2.1], by rw [if_pos c2, gd_t g10, x10, km.2.2.1]⟩
  rw [if_neg c2, if_neg c2]
  by_cases c3 : what = 3
  · exact ⟨nI (T 8 h), by rw [if_pos c3, gd_t g10, x10, kc.2.2.2], by rw [if_pos c3, gd_t g10, x10, km.2.2.2]⟩
  rw [if_neg c3, if_neg c3]
  exact ⟨_, rfl, rfl⟩
theorem step_net (p : Int32) : stepOk (f_X6_net p) (f_X7_net p) := by
  refine step_r fun T U P K F z B Z s hx hc hm => ?_
  have h6 := hx.1.1
  unfold f_X6_net f_X7_net
  rw [k_hutP p hc.1.c0.1, bd_s, zif01, m_hutP p hm.1.c0.1 (by omega), bd_s, zif01]
  rcases ltP p (T 9 0) (by omega) with hn | ⟨h, hh, rfl⟩
  · exact ⟨_, by rw [if_neg hn], by rw [if_neg hn]⟩
  rw [if_pos (ltP_t hh (by omega)), if_pos (ltP_t hh (by omega))]
  exact ⟨nI (owedT T h) - nI (owesT T h), by rw [k_isOwed hc.1 hx.1 (by omega), bd_s, k_owes hc.1 hx.1 (by omega), bd_s], by rw [m_owedTo hm.1 hx.1 (by omega), bd_s, m_owedBy hm.1 hx.1 (by omega), bd_s]⟩
-- asks
theorem in_2 (x : Int32) (n : Nat) (hn : n < 2 ^ 30) : (¬ (0 ≤ x ∧ x ≤ nI n)) ∨ ∃ j, j ≤ n ∧ x = nI j := pk_in2 x n hn
theorem step_asks (p h c : Int32) : stepOk (f_X6_asks p h c) (f_X7_asks p h c) := by
  refine step_q (fun a k v s hk e => fr_X6_asks a k (by unfold cC at hk; omega) e) (fun a k v s hk e => fr_X7_asks a k (by omega) e) ?_
  intro T U P K F z B Z s hx hc
  have h6 := hx.1.1
  have e0 : ∀ S : zMem, zRM T U P K F z B Z S → f_X7_asks p h c S = (if 0 ≤ p ∧ p ≤ 2 then if 0 ≤ h ∧ h < nI (T 9 0) then if 0 ≤ c ∧ c ≤ 9999 then (bd (f_X7_asksOf p h c S) fun r7 s8 => some (r7, s8)) else some (-2, S) else some (-2, S) else some (-2, S)) := by
    intro S hm
    unfold f_X7_asks
    rw [k_in, bd_s, zif01, m_hutP h hm.1.c0.1 (by omega), bd_s, zif01, k_in, bd_s, zif01]
  have e1 : f_X6_asks p h c s = (if 0 ≤ p ∧ p ≤ 2 then if 0 ≤ h ∧ h < nI (T 9 0) then if 0 ≤ c ∧ c ≤ 9999 then (bd (f_X5_says 9 p h c s) fun r7 s8 => some (r7, s8)) else some (-2, s) else some (-2, s) else some (-2, s)) := by
    unfold f_X6_asks
    rw [k_isFromTo, bd_s, zif01, k_hutP h hc.1.c0.1, bd_s, zif01, k_isFromTo, bd_s, zif01]
  have hbad : f_X6_asks p h c s = some (-2, s) → (∀ S, zRM T U P K F z B Z S → f_X7_asks p h c S = some (-2, S)) → ∃ v S, f_X6_asks p h c s = some (v, S) ∧ ∀ S, zRM T U P K F z B Z S → ∃ S', f_X7_asks p h c S = some (v, S') ∧ ∀ a k, cM a k → S' a k = S a k := fun q1 q2 => ⟨-2, s, q1, fun S hm => ⟨S, q2 S hm, fun _ _ _ => rfl⟩⟩
  rcases in_2 p 2 (by omega) with hn | ⟨j, hj, rfl⟩
  · exact hbad (by rw [e1]; exact if_neg hn) (fun S hm => by rw [e0 S hm]; exact if_neg hn)
  rcases ltP h (T 9 0) (by omega) with hn | ⟨i, hi, rfl⟩
  · exact hbad (by rw [e1, if_pos (show (0 : Int32) ≤ nI j ∧ nI j ≤ 2 from inP_t (n := 2) hj (by omega)), if_neg hn]) (fun S hm => by rw [e0 S hm, if_pos (show (0 : Int32) ≤ nI j ∧ nI j ≤ 2 from inP_t (n := 2) hj (by omega)), if_neg hn])
  rcases in_2 c 9999 (by omega) with hn | ⟨d, hd, rfl⟩
  · exact hbad (by rw [e1, if_pos (show (0 : Int32) ≤ nI j ∧ nI j ≤ 2 from inP_t (n := 2) hj (by omega)), if_pos (ltP_t hi (by omega))]; exact if_neg hn) (fun S hm => by rw [e0 S hm, if_pos (show (0 : Int32) ≤ nI j ∧ nI j ≤ 2 from inP_t (n := 2) hj (by omega)), if_pos (ltP_t hi (by omega))]; exact if_neg hn)
  have ok := hc.kOk hx
  obtain ⟨S1, g1, _⟩ := k_says (p := j) (h := i) (c := d) (by omega) ok.2.1 ok.2.2.1 ok.2.2.2.1 ok.2.2.2.2 (by omega) hi
  have t1 : (0 : Int32) ≤ nI j ∧ nI j ≤ 2 := inP_t (n := 2) hj (by omega)
  have t3 : (0 : Int32) ≤ nI d ∧ nI d ≤ 9999 := inP_t (n := 9999) hd (by omega)
  refine ⟨_, S1, by rw [e1, if_pos t1, if_pos (ltP_t hi (by omega)), if_pos t3, g1, bd_s], fun S hm => ?_⟩
  obtain ⟨S2, g2, f2⟩ := m_asks (p := j) (h := i) (c := d) (hm.mOk hx) (by omega) hi
  exact ⟨S2, by rw [e0 S hm, if_pos t1, if_pos (ltP_t hi (by omega)), if_pos t3, g2, bd_s], fun a k hk => f2 a k (by unfold cM at hk; omega) (by unfold cM at hk; omega)⟩
-- force
theorem rC.mk {w : Nat} {s : zMem} {T : zT} (h0 : s w 9 = nI (T 9 0) ∧ s w 10 = nI (T 9 1) ∧ s w 11 = nI (T 9 2) ∧ s w 12 = nI (T 9 3)) (hh : ∀ i, i < T 9 0 → s (w + 1) i = nI (T 0 i) ∧ s (w + 2) i = nI (T 1 i) ∧ s (w + 3) i = nI (T 2 i) ∧ s (w + 4) i = nI (T 3 i) ∧ s (w + 5) i = nI (T 4 i)) (hl : ∀ k, k < T 9 1 → s (w + 6) k = nI (T 5 k) ∧ s (w + 7) k = nI (T 6 k) ∧ s (w + 8) k = nI (T 7 k) ∧ s (w + 9) k = nI (T 8 k)) : rC w s T := by
  intro j i hji
  unfold tIn at hji
  rcases hji with ⟨hj, hi⟩ | ⟨hj, hj2, hi⟩ | ⟨rfl, hi⟩
  · obtain ⟨a0, a1, a2, a3, a4⟩ := hh i hi
    rcases (by omega : j = 0 ∨ j = 1 ∨ j = 2 ∨ j = 3 ∨ j = 4) with rfl | rfl | rfl | rfl | rfl
    · exact a0
    · exact a1
    · exact a2
    · exact a3
    · exact a4
  · obtain ⟨a0, a1, a2, a3⟩ := hl i hi
    rcases (by omega : j = 5 ∨ j = 6 ∨ j = 7 ∨ j = 8) with rfl | rfl | rfl | rfl
    · exact a0
    · exact a1
    · exact a2
    · exact a3
  · obtain ⟨a0, a1, a2, a3⟩ := h0
    rcases (by omega : i = 0 ∨ i = 1 ∨ i = 2 ∨ i = 3) with rfl | rfl | rfl | rfl
    · exact a0
    · exact a1
    · exact a2
    · exact a3
theorem rM.mk {s : zMem} {T : zT} (h0 : s 47 0 = nI (T 9 0) ∧ s 47 8 = nI (T 9 1) ∧ s 47 9 = nI (T 9 2) ∧ s 47 15 = nI (T 9 3)) (hh : ∀ i, i < T 9 0 → s 50 (3 * i) = nI (T 0 i) ∧ s 50 (3 * i + 1) = nI (T 1 i) ∧ s 50 (3 * i + 2) = nI (T 2 i) ∧ s 48 i = nI (T 3 i) ∧ s 49 i = nI (T 4 i)) (hl : ∀ k, k < T 9 1 → s 51 k = nI (T 5 k) ∧ s 52 k = nI (T 6 k) ∧ s 53 k = nI (T 7 k) ∧ s 54 k = nI (T 8 k)) : rM s T := by
  intro j i hji
  unfold tIn at hji
  rcases hji with ⟨hj, hi⟩ | ⟨hj, hj2, hi⟩ | ⟨rfl, hi⟩
  · obtain ⟨a0, a1, a2, a3, a4⟩ := hh i hi
    rcases (by omega : j = 0 ∨ j = 1 ∨ j = 2 ∨ j = 3 ∨ j = 4) with rfl | rfl | rfl | rfl | rfl
    · exact a0
    · exact a1
    · exact a2
    · exact a3
    · exact a4
  · obtain ⟨a0, a1, a2, a3⟩ := hl i hi
    rcases (by omega : j = 5 ∨ j = 6 ∨ j = 7 ∨ j = 8) with rfl | rfl | rfl | rfl
    · exact a0
    · exact a1
    · exact a2
    · exact a3
  · obtain ⟨a0, a1, a2, a3⟩ := h0
    rcases (by omega : i = 0 ∨ i = 1 ∨ i = 2 ∨ i = 3) with rfl | rfl | rfl | rfl
    · exact a0
    · exact a1
    · exact a2
    · exact a3
theorem tU9_h {T : zT} {i v j x : Nat} (h : j < 9) : tU T 9 i v j x = T j x := tU_off (by omega)
theorem rC.law {w : Nat} {s : zMem} {T : zT} (h : rC w s T) (t : Nat) : rC w (zUp s w 12 (nI t)) (tU T 9 3 t) := h.up9 (i := 3) (by omega) t
theorem rM.law {s : zMem} {T : zT} (h : rM s T) (t : Nat) : rM (zUp s 47 15 (nI t)) (tU T 9 3 t) := by
  have e0 : tU T 9 3 t 9 0 = T 9 0 := tU_off (by omega)
  have e1 : tU T 9 3 t 9 1 = T 9 1 := tU_off (by omega)
  have e2 : tU T 9 3 t 9 2 = T 9 2 := tU_off (by omega)
  have e3 : tU T 9 3 t 9 3 = t := tU_hit _ _ _ _
  obtain ⟨m0, m1, m2, m3⟩ := h.c0
  refine rM.mk ⟨by rw [e0, zUp_off (by omega), m0], by rw [e1, zUp_off (by omega), m1], by rw [e2, zUp_off (by omega), m2], by rw [e3, zUp_hit]⟩ (fun i hi => ?_) (fun k hk => ?_)
  · rw [e0] at hi
    rw [tU9_h (by omega), tU9_h (by omega), tU9_h (by omega), tU9_h (by omega), tU9_h (by omega), zUp_off (by omega), zUp_off (by omega), zUp_off (by omega), zUp_off (by omega), zUp_off (by omega)]
    exact h.ch hi
  · rw [e1] at hk
    rw [tU9_h (by omega), tU9_h (by omega), tU9_h (by omega), tU9_h (by omega), zUp_off (by omega), zUp_off (by omega), zUp_off (by omega), zUp_off (by omega)]
    exact h.cl hk
theorem tBd.law {M : Nat} {T : zT} (h : tBd M T) {t : Nat} (ht : t < 6) : tBd M (tU T 9 3 t) := by
  obtain ⟨h0, h1, h2, h3, h4, h5, h6⟩ := h
  have e0 : tU T 9 3 t 9 0 = T 9 0 := tU_off (by omega)
  have e1 : tU T 9 3 t 9 1 = T 9 1 := tU_off (by omega)
  have e2 : tU T 9 3 t 9 2 = T 9 2 := tU_off (by omega)
  have e3 : tU T 9 3 t 9 3 = t := tU_hit _ _ _ _
  refine ⟨by rw [e0]; exact h0, by rw [e1]; exact h1, by rw [e2]; exact h2, by rw [e3]; exact ht, h4, fun i hi => ?_, fun k hk => ?_⟩
  · rw [e0] at hi
    rw [tU9_h (by omega), tU9_h (by omega), tU9_h (by omega), tU9_h (by omega), tU9_h (by omega)]
    exact h5 i hi
  · rw [e1] at hk
    rw [e0, tU9_h (by omega), tU9_h (by omega), tU9_h (by omega), tU9_h (by omega)]
    exact h6 k hk
theorem step_force (p : Int32) : stepOk (f_X6_force p) (f_X7_force p) := by
  refine step_c (fun a k v s hk e => fr_X6_force a k (by omega) e) (fun a k v s hk e => fr_X7_force a k (by omega) e) ?_
  intro T U P K F z B Z s hx hc
  have hK := hx.2.2.1.1
  have hK0 := hx.2.1
  have hpm : nI K - 1 = nI (K - 1) := by rw [← zn1, nI_sub (by omega)]
  have e1 : f_X6_force p s = if 0 ≤ p ∧ p ≤ nI (K - 1) then some (s 9 12, zUp s 9 12 p) else some (-2, s) := by
    unfold f_X6_force
    rw [hc.2.2.1, hpm, k_isFromTo, bd_s, zif01]
    rfl
  have e2 : ∀ S, zRM T U P K F z B Z S → f_X7_force p S = if 0 ≤ p ∧ p ≤ nI (K - 1) then some (S 47 15, zUp S 47 15 p) else some (-2, S) := by
    intro S hm
    unfold f_X7_force
    rw [hm.2.2.1, hpm, k_in, bd_s, zif01]
    rfl
  rcases in_2 p (K - 1) (by omega) with hn | ⟨t, ht, rfl⟩
  · exact ⟨T, U, P, K, F, z, B, Z, _, s, by rw [e1, if_neg hn], hx, hc, fun S hm => ⟨S, by rw [e2 S hm, if_neg hn], hm⟩⟩
  have tt := inP_t ht (by omega)
  have ht3 : tU T 9 3 t 9 3 = t := tU_hit _ _ _ _
  have ht0 : tU T 9 3 t 9 0 = T 9 0 := tU_off (by omega)
  refine ⟨tU T 9 3 t, U, P, K, F, z, B, Z, nI (T 9 3), zUp s 9 12 (nI t), by rw [e1, if_pos tt, hc.1.c0.2.2.2], ⟨hx.1.law (by omega), by omega, hx.2.2.1, hx.2.2.2.1, fun q => ?_, hx.2.2.2.2.2⟩, hc.upT (hc.1.law t) (fun a k _ hk => zUp_off (by omega)), fun S hm => ⟨zUp S 47 15 (nI t), by rw [e2 S hm, if_pos tt, hm.1.c0.2.2.2], hm.upT (hm.1.law t) (fun a k _ hk _ => zUp_off (by omega))⟩⟩
  have := hx.2.2.2.2.1 q
  rw [ht0]
  exact ⟨this.1, this.2.1, this.2.2.1, fun i hi => by rw [tU9_h (by omega), tU9_h (by omega)]; exact this.2.2.2 i hi⟩
-- put
theorem k_become {w j h v : Nat} {T : zT} {s : zMem} (hr : rC w s T) (h6 : T 9 0 ≤ 6) (hj : j < 3) (hh : h < T 9 0) : f_X5_become w (nI h) (nI j) (nI v) s = some ((), zUp s (w + (j + 1)) h (nI v)) ∧ rC w (zUp s (w + (j + 1)) h (nI v)) (tU T j h v) := by
  refine ⟨?_, hr.up (by omega) h v⟩
  unfold f_X5_become
  rcases (by omega : j = 0 ∨ j = 1 ∨ j = 2) with rfl | rfl | rfl
  · rw [if_pos (show nI 0 = 0 from rfl), gd_t (zib_nI (by omega) (by decide)), zix_nI (by omega), nm_eq]
  · rw [if_neg (by decide), if_pos (show nI 1 = 1 from rfl), gd_t (zib_nI (by omega) (by decide)), zix_nI (by omega), nm_eq]
  · rw [if_neg (by decide), if_neg (by decide), gd_t (zib_nI (by omega) (by decide)), zix_nI (by omega), nm_eq]
theorem rM.uj {j : Nat} {s : zMem} {T : zT} (h : rM s T) (hj : j < 3) (i v : Nat) : rM (zUp s 50 (3 * i + j) (nI v)) (tU T j i v) := by
  rcases (by omega : j = 0 ∨ j = 1 ∨ j = 2) with rfl | rfl | rfl
  · exact h.u0 i v
  · exact h.u1 i v
  · exact h.u2 i v
def mostN (j : Nat) : Nat := if j = 0 then 9999 else 99
theorem k_most {j : Nat} (hj : j < 3) (s : zMem) : f_X6_mostOf (nI j) s = some (nI (mostN j), s) := by
  rcases (by omega : j = 0 ∨ j = 1 ∨ j = 2) with rfl | rfl | rfl <;> rfl
theorem zRX.up {T U : zT} {P : zP} {K F : Nat} {Z : zZ} (hx : zRX T U P K F Z) {T' : zT} (hb : tBd 999 T') (h3 : T' 9 3 = T 9 3) (h0 : T' 9 0 = T 9 0) (hk : ∀ i, i < T 9 0 → T' 3 i = T 3 i ∧ T' 4 i = T 4 i) : zRX T' U P K F Z := by
  refine ⟨hb, by rw [h3]; exact hx.2.1, hx.2.2.1, hx.2.2.2.1, fun q => ?_, hx.2.2.2.2.2⟩
  have := hx.2.2.2.2.1 q
  exact ⟨this.1, this.2.1, by rw [h0]; exact this.2.2.1, fun i hi => by rw [(hk i (by omega)).1, (hk i (by omega)).2]; exact this.2.2.2 i hi⟩
theorem step_put (p what v : Int32) : stepOk (f_X6_put p what v) (f_X7_put p what v) := by
  refine step_c (fun a k v s hk e => fr_X6_put a k (by omega) e) (fun a k v s hk e => fr_X7_put a k (by omega) e) ?_
  intro T U P K F z B Z s hx hc
  have h6 := hx.1.1
  have e1 : f_X6_put p what v s = (if 0 ≤ p ∧ p < nI (T 9 0) then if 0 ≤ what ∧ what ≤ 2 then (bd (f_X6_mostOf what s) fun r5 s6 => bd (f_X6_isFromTo v 0 r5 s6) fun r7 s8 => if r7 = 0 then some ((-7), s8) else bd (f_X5_stateOf 9 p what s8) fun r9 s10 => bd (f_X5_become 9 p what v s10) fun _ s12 => some (r9, s12)) else some (-7, s) else some (-5, s)) := by
    unfold f_X6_put
    rw [k_hutP p hc.1.c0.1, bd_s, zif01, k_isFromTo, bd_s, zif01]
  have e2 : ∀ S, zRM T U P K F z B Z S → f_X7_put p what v S = (if 0 ≤ p ∧ p < nI (T 9 0) then if 0 ≤ what ∧ what ≤ 2 then (if what = 0 then f_X7_put_34 p what v 9999 0 v S else f_X7_put_34 p what v 99 0 v S) else some (-7, S) else some (-5, S)) := by
    intro S hm
    unfold f_X7_put
    rw [m_hutP p hm.1.c0.1 (by omega), bd_s, zif01, k_in, bd_s, zif01]
  rcases ltP p (T 9 0) (by omega) with hn | ⟨h, hh, rfl⟩
  · exact ⟨T, U, P, K, F, z, B, Z, _, s, by rw [e1, if_neg hn], hx, hc, fun S hm => ⟨S, by rw [e2 S hm, if_neg hn], hm⟩⟩
  have th := ltP_t hh (n := T 9 0) (by omega)
  rcases in_2 what 2 (by omega) with hn | ⟨j, hj, rfl⟩
  · exact ⟨T, U, P, K, F, z, B, Z, -7, s, by rw [e1, if_pos th]; exact if_neg hn, hx, hc, fun S hm => ⟨S, by rw [e2 S hm, if_pos th]; exact if_neg hn, hm⟩⟩
  have tj : (0 : Int32) ≤ nI j ∧ nI j ≤ 2 := inP_t (n := 2) hj (by omega)
  have hmn : mostN j < 2 ^ 30 := by unfold mostN; split <;> omega
  have e3 : ∀ S, zRM T U P K F z B Z S → f_X7_put (nI h) (nI j) v S = (if 0 ≤ v ∧ v ≤ nI (mostN j) then some (nI (T j h), zUp S 50 (3 * h + j) v) else some (-7, S)) := by
    intro S hm
    rw [e2 S hm, if_pos th, if_pos tj]
    have e4 : ∀ M : Int32, f_X7_put_34 (nI h) (nI j) v M 0 v S = (if 0 ≤ v ∧ v ≤ M then some (nI (T j h), zUp S 50 (3 * h + j) v) else some (-7, S)) := by
      intro M
      unfold f_X7_put_34
      rw [k_in, bd_s, zif01, n3mj, gd_t (zib_nI (by omega) (by decide)), nm_eq, gd_t (zib_nI (by omega) (by decide)), nm_eq, zix_nI (by omega), hm.1.cj (by omega) hh]
    by_cases j0 : j = 0
    · subst j0
      rw [if_pos (show nI 0 = 0 from rfl), e4]
      rfl
    · rw [if_neg (show ¬ nI j = 0 from fun r => j0 ((nI_eq (b := 0) (by omega) (by omega)).mp r)), e4]
      unfold mostN
      rw [if_neg j0]
      rfl
  have e5 : f_X6_put (nI h) (nI j) v s = (if 0 ≤ v ∧ v ≤ nI (mostN j) then bd (f_X5_stateOf 9 (nI h) (nI j) s) fun r9 s10 => bd (f_X5_become 9 (nI h) (nI j) v s10) fun _ s12 => some (r9, s12) else some (-7, s)) := by
    rw [e1, if_pos th, if_pos tj, k_most (by omega), bd_s, k_isFromTo, bd_s, zif01]
  rcases in_2 v (mostN j) hmn with hn | ⟨u, hu, rfl⟩
  · exact ⟨T, U, P, K, F, z, B, Z, -7, s, by rw [e5, if_neg hn], hx, hc, fun S hm => ⟨S, by rw [e3 S hm, if_neg hn], hm⟩⟩
  have tu := inP_t hu hmn
  obtain ⟨g1, g2⟩ := k_become (v := u) hc.1 h6 (show j < 3 by omega) hh
  refine ⟨tU T j h u, U, P, K, F, z, B, Z, nI (T j h), _, by rw [e5, if_pos tu, k_state hc.1 h6 (by omega) hh, bd_s, g1, bd_s], hx.up (hx.1.up (by omega) ?_) (tU_off (by omega)) (tU_off (by omega)) (fun i _ => ⟨tU_off (by omega), tU_off (by omega)⟩), hc.upT g2 (fun a k _ hk => zUp_off (by omega)), fun S hm => ⟨_, by rw [e3 S hm, if_pos tu], hm.upT (hm.1.uj (by omega) h u) (fun a k _ _ hk => zUp_off (by omega))⟩⟩
  unfold mostN at hu
  split at hu <;> omega

-- steps: hut
def hutT (kd mo he wo : Nat) (T : zT) : zT := fun j i => if j = 9 ∧ i = 0 then T 9 0 + 1 else if j = 0 ∧ i = T 9 0 then he else if j = 1 ∧ i = T 9 0 then wo else if j = 2 ∧ i = T 9 0 then 0 else if j = 3 ∧ i = T 9 0 then kd else if j = 4 ∧ i = T 9 0 then mo else T j i
theorem hutT_9 {kd mo he wo : Nat} {T : zT} : hutT kd mo he wo T 9 0 = T 9 0 + 1 ∧ hutT kd mo he wo T 9 1 = T 9 1 ∧ hutT kd mo he wo T 9 2 = T 9 2 ∧ hutT kd mo he wo T 9 3 = T 9 3 := by
  unfold hutT
  refine ⟨by rw [if_pos ⟨rfl, rfl⟩], ?_, ?_, ?_⟩ <;> rw [if_neg (by omega), if_neg (by omega), if_neg (by omega), if_neg (by omega), if_neg (by omega), if_neg (by omega)]
theorem hutT_o {kd mo he wo j i : Nat} {T : zT} (h : j < 9) (h2 : i ≠ T 9 0) : hutT kd mo he wo T j i = T j i := by
  unfold hutT
  rw [if_neg (by omega), if_neg (by omega), if_neg (by omega), if_neg (by omega), if_neg (by omega), if_neg (by omega)]
theorem hutT_l {kd mo he wo j i : Nat} {T : zT} (h : 5 ≤ j) (h2 : j < 9) : hutT kd mo he wo T j i = T j i := by
  unfold hutT
  rw [if_neg (by omega), if_neg (by omega), if_neg (by omega), if_neg (by omega), if_neg (by omega), if_neg (by omega)]
theorem hutT_n {kd mo he wo : Nat} {T : zT} : hutT kd mo he wo T 0 (T 9 0) = he ∧ hutT kd mo he wo T 1 (T 9 0) = wo ∧ hutT kd mo he wo T 2 (T 9 0) = 0 ∧ hutT kd mo he wo T 3 (T 9 0) = kd ∧ hutT kd mo he wo T 4 (T 9 0) = mo := by
  unfold hutT
  refine ⟨?_, ?_, ?_, ?_, ?_⟩
  · rw [if_neg (by omega), if_pos ⟨rfl, rfl⟩]
  · rw [if_neg (by omega), if_neg (by omega), if_pos ⟨rfl, rfl⟩]
  · rw [if_neg (by omega), if_neg (by omega), if_neg (by omega), if_pos ⟨rfl, rfl⟩]
  · rw [if_neg (by omega), if_neg (by omega), if_neg (by omega), if_neg (by omega), if_pos ⟨rfl, rfl⟩]
  · rw [if_neg (by omega), if_neg (by omega), if_neg (by omega), if_neg (by omega), if_neg (by omega), if_pos ⟨rfl, rfl⟩]
def comeT (p q : Int32) (T : zT) : Int32 × zT := if 0 ≤ p ∧ p ≤ 59 then (if 0 ≤ q ∧ q ≤ 999999 then (if T 9 0 < 6 then (nI (T 9 0), hutT (zix p / 10) (zix p % 10) (zix q / 100) (zix q % 100) T) else (-4, T)) else (-2, T)) else (-2, T)
theorem hutT_bd {M kd mo he wo : Nat} {T : zT} (h : tBd M T) (h6 : T 9 0 < 6) (h1 : kd ≤ 5) (h2 : mo ≤ 9) (h3 : he ≤ 9999) (h4 : wo ≤ 99) : tBd M (hutT kd mo he wo T) := by
  obtain ⟨e0, e1, e2, e3⟩ := hutT_9 (kd := kd) (mo := mo) (he := he) (wo := wo) (T := T)
  refine ⟨by omega, by rw [e1]; exact h.2.1, by rw [e2]; exact h.2.2.1, by rw [e3]; exact h.2.2.2.1, h.2.2.2.2.1, fun i hi => ?_, fun k hk => ?_⟩
  · rw [e0] at hi
    by_cases q : i = T 9 0
    · subst q
      obtain ⟨n0, n1, n2, n3, n4⟩ := hutT_n (kd := kd) (mo := mo) (he := he) (wo := wo) (T := T)
      rw [n0, n1, n2, n3, n4]
      omega
    · rw [hutT_o (by omega) q, hutT_o (by omega) q, hutT_o (by omega) q, hutT_o (by omega) q, hutT_o (by omega) q]
      exact h.2.2.2.2.2.1 i (by omega)
  · rw [e1] at hk
    have := h.2.2.2.2.2.2 k hk
    rw [e0, hutT_l (by omega) (by omega), hutT_l (by omega) (by omega), hutT_l (by omega) (by omega), hutT_l (by omega) (by omega)]
    omega
theorem comeT_RX {T U : zT} {P : zP} {K F : Nat} {Z : zZ} (hx : zRX T U P K F Z) (p q : Int32) : zRX (comeT p q T).2 U P K F Z := by
  unfold comeT
  by_cases c1 : 0 ≤ p ∧ p ≤ 59
  · by_cases c2 : 0 ≤ q ∧ q ≤ 999999
    · by_cases c3 : T 9 0 < 6
      · rw [if_pos c1, if_pos c2, if_pos c3]
        obtain ⟨m, hm, rfl⟩ := (pk_in2 p 59 (by omega)).resolve_left (fun r => r c1)
        obtain ⟨v, hv, rfl⟩ := (pk_in2 q 999999 (by omega)).resolve_left (fun r => r c2)
        rw [zix_nI (by omega), zix_nI (by omega)]
        obtain ⟨e0, e1, e2, e3⟩ := hutT_9 (kd := m / 10) (mo := m % 10) (he := v / 100) (wo := v % 100) (T := T)
        refine ⟨hutT_bd hx.1 c3 (by omega) (by omega) (by omega) (by omega), by dsimp only; rw [e3]; exact hx.2.1, hx.2.2.1, hx.2.2.2.1, fun r => ?_, hx.2.2.2.2.2⟩
        have := hx.2.2.2.2.1 r
        exact ⟨this.1, this.2.1, by dsimp only; omega, fun i hi => by dsimp only; rw [hutT_o (by omega) (by omega), hutT_o (by omega) (by omega)]; exact this.2.2.2 i hi⟩
      · rw [if_pos c1, if_pos c2, if_neg c3]; exact hx
    · rw [if_pos c1, if_neg c2]; exact hx
  · rw [if_neg c1]; exact hx
theorem k_comes {M : Nat} {s : zMem} {T : zT} (hr : rC 9 s T) (hb : tBd M T) (p q : Int32) : ∃ S, f_X5_comes 9 p q s = some ((comeT p q T).1, S) ∧ rC 9 S (comeT p q T).2 := by
  have h6 := hb.1
  obtain ⟨d0, d1, d2, d3⟩ := hr.c0
  unfold f_X5_comes comeT
  rw [k_isFromTo, bd_s, zif01, k_isFromTo, bd_s, zif01]
  by_cases c1 : 0 ≤ p ∧ p ≤ 59
  · by_cases c2 : 0 ≤ q ∧ q ≤ 999999
    · rw [if_pos c1, if_pos c2, if_pos c1, if_pos c2, d0]
      by_cases c3 : T 9 0 < 6
      · obtain ⟨m, hm, rfl⟩ := (pk_in2 p 59 (by omega)).resolve_left (fun r => r c1)
        obtain ⟨v, hv, rfl⟩ := (pk_in2 q 999999 (by omega)).resolve_left (fun r => r c2)
        have a1 : nI m / 10 = nI (m / 10) := pk_div (d := 10) (by omega) (by omega) (by omega)
        have a2 : zrem (nI m) 10 = nI (m % 10) := pk_rem (d := 10) (by omega) (by omega) (by omega)
        have a3 : nI v / 100 = nI (v / 100) := pk_div (d := 100) (by omega) (by omega) (by omega)
        have a4 : zrem (nI v) 100 = nI (v % 100) := pk_rem (d := 100) (by omega) (by omega) (by omega)
        have g6 : zib (nI (T 9 0)) 6 = true := zib_nI (by omega) (by decide)
        have x6 : zix (nI (T 9 0)) = T 9 0 := zix_nI (by omega)
        rw [if_pos (show nI (T 9 0) < 6 from nI_lt (b := 6) c3 (by omega)), if_pos c3, gd_t g6, nm_eq, x6, a1, a2, a3, a4, zix_nI (by omega), zix_nI (by omega)]
        have w1 : zUp s (9 + 4) (T 9 0) (nI (m / 10)) 9 9 = nI (T 9 0) := by rw [zUp_off (by omega), d0]
        rw [w1, gd_t g6, nm_eq, x6]
        have w2 : zUp (zUp s (9 + 4) (T 9 0) (nI (m / 10))) (9 + 5) (T 9 0) (nI (m % 10)) 9 9 = nI (T 9 0) := by rw [zUp_off (by omega), w1]
        rw [w2, gd_t g6, nm_eq, x6]
        have w3 : zUp (zUp (zUp s (9 + 4) (T 9 0) (nI (m / 10))) (9 + 5) (T 9 0) (nI (m % 10))) (9 + 1) (T 9 0) (nI (v / 100)) 9 9 = nI (T 9 0) := by rw [zUp_off (by omega), w2]
        rw [w3, gd_t g6, nm_eq, x6]
        have w4 : zUp (zUp (zUp (zUp s (9 + 4) (T 9 0) (nI (m / 10))) (9 + 5) (T 9 0) (nI (m % 10))) (9 + 1) (T 9 0) (nI (v / 100))) (9 + 2) (T 9 0) (nI (v % 100)) 9 9 = nI (T 9 0) := by rw [zUp_off (by omega), w3]
        rw [w4, gd_t g6, nm_eq, x6]
        have w5 : zUp (zUp (zUp (zUp (zUp s (9 + 4) (T 9 0) (nI (m / 10))) (9 + 5) (T 9 0) (nI (m % 10))) (9 + 1) (T 9 0) (nI (v / 100))) (9 + 2) (T 9 0) (nI (v % 100))) (9 + 3) (T 9 0) 0 9 9 = nI (T 9 0) := by rw [zUp_off (by omega), w4]
        rw [w5, nI_1, nm_eq, zUp_hit, nI_pred]
        have off : ∀ x k, ¬ (x = 9 ∧ k = 9) → ¬ (10 ≤ x ∧ x ≤ 14 ∧ k = T 9 0) → zUp (zUp (zUp (zUp (zUp (zUp s (9 + 4) (T 9 0) (nI (m / 10))) (9 + 5) (T 9 0) (nI (m % 10))) (9 + 1) (T 9 0) (nI (v / 100))) (9 + 2) (T 9 0) (nI (v % 100))) (9 + 3) (T 9 0) 0) 9 9 (nI (T 9 0 + 1)) x k = s x k := fun x k h1 h2 => by rw [zUp_off (by omega), zUp_off (by omega), zUp_off (by omega), zUp_off (by omega), zUp_off (by omega), zUp_off (by omega)]
        obtain ⟨e0, e1, e2, e3⟩ := hutT_9 (kd := m / 10) (mo := m % 10) (he := v / 100) (wo := v % 100) (T := T)
        obtain ⟨n0, n1, n2, n3, n4⟩ := hutT_n (kd := m / 10) (mo := m % 10) (he := v / 100) (wo := v % 100) (T := T)
        refine ⟨_, rfl, rC.mk (T := hutT (m / 10) (m % 10) (v / 100) (v % 100) T) ⟨by rw [zUp_hit, e0], by rw [off _ _ (by omega) (by omega), e1, d1], by rw [off _ _ (by omega) (by omega), e2, d2], by rw [off _ _ (by omega) (by omega), e3, d3]⟩ (fun i hi => ?_) (fun k hk => ?_)⟩
        · rw [e0] at hi
          by_cases qi : i = T 9 0
          · subst qi
            rw [n0, n1, n2, n3, n4]
            refine ⟨?_, ?_, ?_, ?_, ?_⟩
            · rw [zUp_off (by omega), zUp_off (by omega), zUp_off (by omega), zUp_hit]
            · rw [zUp_off (by omega), zUp_off (by omega), zUp_hit]
            · rw [zUp_off (by omega), zUp_hit]; rfl
            · rw [zUp_off (by omega), zUp_off (by omega), zUp_off (by omega), zUp_off (by omega), zUp_off (by omega), zUp_hit]
            · rw [zUp_off (by omega), zUp_off (by omega), zUp_off (by omega), zUp_off (by omega), zUp_hit]
          · rw [off _ _ (by omega) (by omega), off _ _ (by omega) (by omega), off _ _ (by omega) (by omega), off _ _ (by omega) (by omega), off _ _ (by omega) (by omega), hutT_o (by omega) qi, hutT_o (by omega) qi, hutT_o (by omega) qi, hutT_o (by omega) qi, hutT_o (by omega) qi]
            exact hr.ch (by omega)
        · rw [e1] at hk
          rw [off _ _ (by omega) (by omega), off _ _ (by omega) (by omega), off _ _ (by omega) (by omega), off _ _ (by omega) (by omega), hutT_l (by omega) (by omega), hutT_l (by omega) (by omega), hutT_l (by omega) (by omega), hutT_l (by omega) (by omega)]
          exact hr.cl hk
      · rw [if_neg (show ¬ nI (T 9 0) < 6 from nI_nlt (b := 6) (by omega) (by omega)), if_neg c3]
        exact ⟨s, rfl, hr⟩
    · rw [if_pos c1, if_neg c2, if_pos c1, if_neg c2]
      exact ⟨s, rfl, hr⟩
  · rw [if_neg c1, if_neg c1]
    exact ⟨s, rfl, hr⟩
theorem m_comes {M : Nat} {s : zMem} {T : zT} (hr : rM s T) (hb : tBd M T) (p q : Int32) : ∃ S, f_X7_hut p q s = some ((comeT p q T).1, S) ∧ rM S (comeT p q T).2 := by
  have h6 := hb.1
  obtain ⟨d0, d1, d2, d3⟩ := hr.c0
  unfold f_X7_hut comeT
  rw [k_in, bd_s, zif01, k_in, bd_s, zif01]
  by_cases c1 : 0 ≤ p ∧ p ≤ 59
  · by_cases c2 : 0 ≤ q ∧ q ≤ 999999
    · rw [if_pos c1, if_pos c2, if_pos c1, if_pos c2, d0]
      by_cases c3 : T 9 0 < 6
      · obtain ⟨m, hm, rfl⟩ := (pk_in2 p 59 (by omega)).resolve_left (fun r => r c1)
        obtain ⟨v, hv, rfl⟩ := (pk_in2 q 999999 (by omega)).resolve_left (fun r => r c2)
        have a1 : nI m / 10 = nI (m / 10) := pk_div (d := 10) (by omega) (by omega) (by omega)
        have a2 : zrem (nI m) 10 = nI (m % 10) := pk_rem (d := 10) (by omega) (by omega) (by omega)
        have a3 : nI v / 100 = nI (v / 100) := pk_div (d := 100) (by omega) (by omega) (by omega)
        have a4 : zrem (nI v) 100 = nI (v % 100) := pk_rem (d := 100) (by omega) (by omega) (by omega)
        have g6 : zib (nI (T 9 0)) 6 = true := zib_nI (by omega) (by decide)
        have x6 : zix (nI (T 9 0)) = T 9 0 := zix_nI (by omega)
        have g0 : zib (nI (3 * T 9 0)) 18 = true := zib_nI (by omega) (by decide)
        have g1 : zib (nI (3 * T 9 0 + 1)) 18 = true := zib_nI (by omega) (by decide)
        have g2 : zib (nI (3 * T 9 0 + 2)) 18 = true := zib_nI (by omega) (by decide)
        have x0 : zix (nI (3 * T 9 0)) = 3 * T 9 0 := zix_nI (by omega)
        have x1 : zix (nI (3 * T 9 0 + 1)) = 3 * T 9 0 + 1 := zix_nI (by omega)
        have x2 : zix (nI (3 * T 9 0 + 2)) = 3 * T 9 0 + 2 := zix_nI (by omega)
        have ne : ¬ nI (T 9 0) = 6 := fun r => by
          have := (nI_eq (a := T 9 0) (b := 6) (by omega) (by omega)).mp r
          omega
        rw [if_neg ne, if_pos c3, gd_t g6, nm_eq, x6, a1, a2, a3, a4, zix_nI (by omega), zix_nI (by omega)]
        have w1 : zUp s 48 (T 9 0) (nI (m / 10)) 47 0 = nI (T 9 0) := by rw [zUp_off (by omega), d0]
        rw [w1, gd_t g6, nm_eq, x6]
        have w2 : zUp (zUp s 48 (T 9 0) (nI (m / 10))) 49 (T 9 0) (nI (m % 10)) 47 0 = nI (T 9 0) := by rw [zUp_off (by omega), w1]
        rw [w2, n3m, gd_t g0, nm_eq, x0]
        have w3 : zUp (zUp (zUp s 48 (T 9 0) (nI (m / 10))) 49 (T 9 0) (nI (m % 10))) 50 (3 * T 9 0) (nI (v / 100)) 47 0 = nI (T 9 0) := by rw [zUp_off (by omega), w2]
        rw [w3, n3m1, gd_t g1, nm_eq, x1]
        have w4 : zUp (zUp (zUp (zUp s 48 (T 9 0) (nI (m / 10))) 49 (T 9 0) (nI (m % 10))) 50 (3 * T 9 0) (nI (v / 100))) 50 (3 * T 9 0 + 1) (nI (v % 100)) 47 0 = nI (T 9 0) := by rw [zUp_off (by omega), w3]
        rw [w4, n3m2, gd_t g2, nm_eq, x2]
        have w5 : zUp (zUp (zUp (zUp (zUp s 48 (T 9 0) (nI (m / 10))) 49 (T 9 0) (nI (m % 10))) 50 (3 * T 9 0) (nI (v / 100))) 50 (3 * T 9 0 + 1) (nI (v % 100))) 50 (3 * T 9 0 + 2) 0 47 0 = nI (T 9 0) := by rw [zUp_off (by omega), w4]
        rw [w5, nI_1, nm_eq, zUp_hit, nI_pred]
        have off : ∀ x k, ¬ (x = 47 ∧ k = 0) → ¬ (48 ≤ x ∧ x ≤ 49 ∧ k = T 9 0) → ¬ (x = 50 ∧ 3 * T 9 0 ≤ k ∧ k ≤ 3 * T 9 0 + 2) → zUp (zUp (zUp (zUp (zUp (zUp s 48 (T 9 0) (nI (m / 10))) 49 (T 9 0) (nI (m % 10))) 50 (3 * T 9 0) (nI (v / 100))) 50 (3 * T 9 0 + 1) (nI (v % 100))) 50 (3 * T 9 0 + 2) 0) 47 0 (nI (T 9 0 + 1)) x k = s x k := fun x k h1 h2 h3 => by rw [zUp_off (by omega), zUp_off (by omega), zUp_off (by omega), zUp_off (by omega), zUp_off (by omega), zUp_off (by omega)]
        obtain ⟨e0, e1, e2, e3⟩ := hutT_9 (kd := m / 10) (mo := m % 10) (he := v / 100) (wo := v % 100) (T := T)
        obtain ⟨n0, n1, n2, n3, n4⟩ := hutT_n (kd := m / 10) (mo := m % 10) (he := v / 100) (wo := v % 100) (T := T)
        refine ⟨_, rfl, rM.mk (T := hutT (m / 10) (m % 10) (v / 100) (v % 100) T) ⟨by rw [zUp_hit, e0], by rw [off _ _ (by omega) (by omega) (by omega), e1, d1], by rw [off _ _ (by omega) (by omega) (by omega), e2, d2], by rw [off _ _ (by omega) (by omega) (by omega), e3, d3]⟩ (fun i hi => ?_) (fun k hk => ?_)⟩
        · rw [e0] at hi
          by_cases qi : i = T 9 0
          · subst qi
            rw [n0, n1, n2, n3, n4]
            refine ⟨?_, ?_, ?_, ?_, ?_⟩
            · rw [zUp_off (by omega), zUp_off (by omega), zUp_off (by omega), zUp_hit]
            · rw [zUp_off (by omega), zUp_off (by omega), zUp_hit]
            · rw [zUp_off (by omega), zUp_hit]; rfl
            · rw [zUp_off (by omega), zUp_off (by omega), zUp_off (by omega), zUp_off (by omega), zUp_off (by omega), zUp_hit]
            · rw [zUp_off (by omega), zUp_off (by omega), zUp_off (by omega), zUp_off (by omega), zUp_hit]
          · rw [off _ _ (by omega) (by omega) (by omega), off _ _ (by omega) (by omega) (by omega), off _ _ (by omega) (by omega) (by omega), off _ _ (by omega) (by omega) (by omega), off _ _ (by omega) (by omega) (by omega), hutT_o (by omega) qi, hutT_o (by omega) qi, hutT_o (by omega) qi, hutT_o (by omega) qi, hutT_o (by omega) qi]
            exact hr.ch (by omega)
        · rw [e1] at hk
          rw [off _ _ (by omega) (by omega) (by omega), off _ _ (by omega) (by omega) (by omega), off _ _ (by omega) (by omega) (by omega), off _ _ (by omega) (by omega) (by omega), hutT_l (by omega) (by omega), hutT_l (by omega) (by omega), hutT_l (by omega) (by omega), hutT_l (by omega) (by omega)]
          exact hr.cl hk
      · have e6 : nI (T 9 0) = 6 := by rw [show T 9 0 = 6 by omega]; rfl
        rw [if_pos e6, if_neg c3]
        exact ⟨s, rfl, hr⟩
    · rw [if_pos c1, if_neg c2, if_pos c1, if_neg c2]
      exact ⟨s, rfl, hr⟩
  · rw [if_neg c1, if_neg c1]
    exact ⟨s, rfl, hr⟩
theorem step_hut (p q : Int32) : stepOk (f_X6_hut p q) (f_X7_hut p q) := by
  refine step_c (fun a k v s hk e => fr_X6_hut a k (by omega) e) (fun a k v s hk e => fr_X7_hut a k (by omega) e) ?_
  intro T U P K F z B Z s hx hc
  obtain ⟨S1, d1, r1⟩ := k_comes hc.1 hx.1 p q
  refine ⟨(comeT p q T).2, U, P, K, F, z, B, Z, (comeT p q T).1, S1, by unfold f_X6_hut; rw [d1, bd_s], comeT_RX hx p q, hc.upT r1 (fun a k hk hn => fr_X5_comes a k (by unfold cC at hk; omega) rfl _ S1 d1), fun S hm => ?_⟩
  obtain ⟨S2, d2, r2⟩ := m_comes hm.1 hx.1 p q
  exact ⟨S2, d2, hm.upT r2 (fun a k hk h1 h2 => fr_X7_hut a k (by omega) rfl _ S2 d2)⟩
-- feed
def bU (B : Nat → Nat) (z b : Nat) : Nat → Nat := fun i => if i = z then b else B i
theorem k_take {B : Nat → Nat} {z b : Nat} {s : zMem} (h : tpC B z s) (hz : z < 160) (hb : b < 256) : ∃ S, f_X2_takeByte (nI b) s = some ((), S) ∧ tpC (bU B z b) (z + 1) S := by
  unfold f_X2_takeByte
  rw [h.1, if_neg (n160 z hz), gd_t (zib_nI hz (by decide)), nm_eq, zix_nI (by omega), zUp_off (by omega), h.1, nI_1, nm_eq]
  refine ⟨_, rfl, zUp_hit _ _ _ _, by omega, fun i hi => ?_⟩
  unfold bU
  by_cases q : i = z
  · subst q
    rw [if_pos rfl, zUp_off (by omega), zUp_hit]
    exact ⟨rfl, hb⟩
  · rw [if_neg q, zUp_off (by omega), zUp_off (by omega)]
    exact h.2.2 i (by omega)
theorem m_take {B : Nat → Nat} {z b : Nat} {s : zMem} (h : tpM B z s) (hz : z < 160) (hb : b < 256) : tpM (bU B z b) (z + 1) (zUp (zUp s 55 z (nI b)) 47 11 (nI (z + 1))) := by
  refine ⟨zUp_hit _ _ _ _, by omega, fun i hi => ?_⟩
  unfold bU
  by_cases q : i = z
  · subst q
    rw [if_pos rfl, zUp_off (by omega), zUp_hit]
    exact ⟨rfl, hb⟩
  · rw [if_neg q, zUp_off (by omega), zUp_off (by omega)]
    exact h.2.2 i (by omega)
def bF (B : Nat → Nat) (z : Nat) (b : Nat → Nat) : Nat → Nat → Nat
  | 0 => B
  | n + 1 => bU (bF B z b n) (z + n) (b n)
def b5 (a b c d e : Nat) : Nat → Nat := fun k => if k = 0 then a else if k = 1 then b else if k = 2 then c else if k = 3 then d else e
theorem m_feedL {B : Nat → Nat} {z n a b c d e : Nat} (ha : a < 256) (hb : b < 256) (hc : c < 256) (hd : d < 256) (he : e < 256) (hn : n ≤ 5) (hz : z + n ≤ 160) : ∀ (f k : Nat) (s : zMem), k ≤ n → n - k < f → tpM (bF B z (b5 a b c d e) k) (z + k) s → ∃ S, f_X7_feed_68 f (nI n) (nI a) (nI b) (nI c) (nI d) (nI e) (nI k) s = some (nI (z + n), S) ∧ tpM (bF B z (b5 a b c d e) n) (z + n) S := by
  intro f
  induction f with
  | zero => intro k s h1 h2; omega
  | succ f ih =>
    intro k s h1 h2 h
    rw [f_X7_feed_68]
    by_cases q : n ≤ k
    · rw [if_pos (nI_le q (by omega)), h.1, show k = n by omega]
      rw [show k = n by omega] at h
      exact ⟨s, rfl, h⟩
    · rw [if_neg (nI_ge (by omega) (by omega))]
      have go : ∀ v : Nat, v = b5 a b c d e k → ∃ S, (gd (zib (s 47 11) 160) <| nm (zUp s 55 (zix (s 47 11)) (nI v)) fun s33 => nm (zUp s33 47 11 ((s33 47 11) + 1)) fun s34 => nm (nI k + 1) fun x35 => f_X7_feed_68 f (nI n) (nI a) (nI b) (nI c) (nI d) (nI e) x35 s34) = some (nI (z + n), S) ∧ tpM (bF B z (b5 a b c d e) n) (z + n) S := by
        intro v hv
        rw [h.1, gd_t (zib_nI (by omega) (by decide)), nm_eq, zix_nI (by omega), zUp_off (by omega), h.1, nI_1, nm_eq, nI_1, nm_eq]
        have hv2 : v < 256 := by
          rw [hv]
          unfold b5
          repeat' split
          all_goals assumption
        have := m_take (b := v) h (by omega) hv2
        refine ih (k + 1) _ (by omega) (by omega) ?_
        show tpM (bU (bF B z (b5 a b c d e) k) (z + k) (b5 a b c d e k)) (z + k + 1) _
        rw [← hv]
        exact this
      have e0 : ∀ j : Nat, j < 5 → ((nI k = nI j) ↔ k = j) := fun j hj => nI_eq (by omega) (by omega)
      by_cases k0 : k = 0
      · rw [if_pos (show nI k = 0 from (e0 0 (by omega)).mpr k0)]
        exact go a (by rw [k0]; rfl)
      rw [if_neg (show ¬ nI k = 0 from fun r => k0 ((e0 0 (by omega)).mp r))]
      by_cases k1 : k = 1
      · rw [if_pos (show nI k = 1 from (e0 1 (by omega)).mpr k1)]
        exact go b (by rw [k1]; rfl)
      rw [if_neg (show ¬ nI k = 1 from fun r => k1 ((e0 1 (by omega)).mp r))]
      by_cases k2 : k = 2
      · rw [if_pos (show nI k = 2 from (e0 2 (by omega)).mpr k2)]
        exact go c (by rw [k2]; rfl)
      rw [if_neg (show ¬ nI k = 2 from fun r => k2 ((e0 2 (by omega)).mp r))]
      by_cases k3 : k = 3
      · rw [if_pos (show nI k = 3 from (e0 3 (by omega)).mpr k3)]
        exact go d (by rw [k3]; rfl)
      rw [if_neg (show ¬ nI k = 3 from fun r => k3 ((e0 3 (by omega)).mp r))]
      exact go e (by rw [show k = 4 by omega]; rfl)
theorem k_byte (p : Int32) (s : zMem) : f_X6_isByte p s = some (if 0 ≤ p ∧ p ≤ 255 then 1 else 0, s) := by
  unfold f_X6_isByte
  rw [k_isFromTo, bd_s, gd_t z01_if]
theorem m_byte (p : Int32) (s : zMem) : f_X7_isByte p s = some (if 0 ≤ p ∧ p ≤ 255 then 1 else 0, s) := by
  unfold f_X7_isByte
  rw [k_in, bd_s, gd_t z01_if]
theorem k_feed5 {B : Nat → Nat} {z n a b c d e : Nat} {s : zMem} (ha : a < 256) (hb : b < 256) (hc : c < 256) (hd : d < 256) (he : e < 256) (hn1 : 1 ≤ n) (hn : n ≤ 5) (hz : z + n ≤ 160) (h : tpC B z s) : ∃ S, (bd (f_X2_takeByte (nI a) s) fun _ s14 => if nI n ≤ 1 then f_X6_feed_89 (nI n) (nI c) (nI d) (nI e) s14 else bd (f_X2_takeByte (nI b) s14) fun _ s33 => f_X6_feed_89 (nI n) (nI c) (nI d) (nI e) s33) = some (nI (z + n), S) ∧ tpC (bF B z (b5 a b c d e) n) (z + n) S := by
  obtain ⟨S1, e1, h1⟩ := k_take h (by omega) ha
  rw [e1, bd_s]
  rcases (by omega : n = 1 ∨ n = 2 ∨ n = 3 ∨ n = 4 ∨ n = 5) with rfl | rfl | rfl | rfl | rfl
  · rw [if_pos (show nI 1 ≤ 1 by decide)]
    unfold f_X6_feed_89 f_X6_feed_103
    rw [if_pos (show nI 1 ≤ 2 by decide), if_pos (show nI 1 ≤ 3 by decide), if_pos (show nI 1 ≤ 4 by decide), h1.1]
    exact ⟨S1, rfl, h1⟩
  · rw [if_neg (show ¬ nI 2 ≤ 1 by decide)]
    obtain ⟨S2, e2, h2⟩ := k_take h1 (by omega) hb
    rw [e2, bd_s]
    unfold f_X6_feed_89 f_X6_feed_103
    rw [if_pos (show nI 2 ≤ 2 by decide), if_pos (show nI 2 ≤ 3 by decide), if_pos (show nI 2 ≤ 4 by decide), h2.1]
    exact ⟨S2, rfl, h2⟩
  · rw [if_neg (show ¬ nI 3 ≤ 1 by decide)]
    obtain ⟨S2, e2, h2⟩ := k_take h1 (by omega) hb
    obtain ⟨S3, e3, h3⟩ := k_take h2 (by omega) hc
    rw [e2, bd_s]
    unfold f_X6_feed_89 f_X6_feed_103
    rw [if_neg (show ¬ nI 3 ≤ 2 by decide), e3, bd_s, if_pos (show nI 3 ≤ 3 by decide), if_pos (show nI 3 ≤ 4 by decide), h3.1]
    exact ⟨S3, rfl, h3⟩
  · rw [if_neg (show ¬ nI 4 ≤ 1 by decide)]
    obtain ⟨S2, e2, h2⟩ := k_take h1 (by omega) hb
    obtain ⟨S3, e3, h3⟩ := k_take h2 (by omega) hc
    obtain ⟨S4, e4, h4⟩ := k_take h3 (by omega) hd
    rw [e2, bd_s]
    unfold f_X6_feed_89 f_X6_feed_103
    rw [if_neg (show ¬ nI 4 ≤ 2 by decide), e3, bd_s, if_neg (show ¬ nI 4 ≤ 3 by decide), e4, bd_s, if_pos (show nI 4 ≤ 4 by decide), h4.1]
    exact ⟨S4, rfl, h4⟩
  · rw [if_neg (show ¬ nI 5 ≤ 1 by decide)]
    obtain ⟨S2, e2, h2⟩ := k_take h1 (by omega) hb
    obtain ⟨S3, e3, h3⟩ := k_take h2 (by omega) hc
    obtain ⟨S4, e4, h4⟩ := k_take h3 (by omega) hd
    obtain ⟨S5, e5, h5⟩ := k_take h4 (by omega) he
    rw [e2, bd_s]
    unfold f_X6_feed_89 f_X6_feed_103
    rw [if_neg (show ¬ nI 5 ≤ 2 by decide), e3, bd_s, if_neg (show ¬ nI 5 ≤ 3 by decide), e4, bd_s, if_neg (show ¬ nI 5 ≤ 4 by decide), e5, bd_s, h5.1]
    exact ⟨S5, rfl, h5⟩
theorem step_feed (p a b c d e : Int32) : stepOk (f_X6_feed p a b c d e) (f_X7_feed p a b c d e) := by
  refine step_c (fun x k v s hk e => fr_X6_feed x k (by omega) e) (fun x k v s hk e => fr_X7_feed x k (by omega) e) ?_
  intro T U P K F z B Z s hx hc
  have hzc := hc.2.2.2.1
  have same : ∀ v, f_X6_feed p a b c d e s = some (v, s) → (∀ S, zRM T U P K F z B Z S → f_X7_feed p a b c d e S = some (v, S)) → ∃ T' U' P' K' F' z' B' Z' v S, f_X6_feed p a b c d e s = some (v, S) ∧ zRX T' U' P' K' F' Z' ∧ zRC T' U' P' K' F' z' B' Z' S ∧ ∀ S, zRM T U P K F z B Z S → ∃ S', f_X7_feed p a b c d e S = some (v, S') ∧ zRM T' U' P' K' F' z' B' Z' S' := fun v q1 q2 => ⟨T, U, P, K, F, z, B, Z, v, s, q1, hx, hc, fun S hm => ⟨S, q2 S hm, hm⟩⟩
  have e1 : f_X6_feed p a b c d e s = (if 1 ≤ p ∧ p ≤ 5 then if 0 ≤ a ∧ a ≤ 255 then if 0 ≤ b ∧ b ≤ 255 then if 0 ≤ c ∧ c ≤ 255 then if 0 ≤ d ∧ d ≤ 255 then if 0 ≤ e ∧ e ≤ 255 then (if (s 5 1) + p ≤ 160 then (bd (f_X2_takeByte a s) fun _ s14 => if p ≤ 1 then f_X6_feed_89 p c d e s14 else bd (f_X2_takeByte b s14) fun _ s33 => f_X6_feed_89 p c d e s33) else some (-4, s)) else some (-2, s) else some (-2, s) else some (-2, s) else some (-2, s) else some (-2, s) else some (-2, s)) := by
    unfold f_X6_feed
    rw [k_isFromTo, bd_s, zif01, k_byte, bd_s, zif01, k_byte, bd_s, zif01, k_byte, bd_s, zif01, k_byte, bd_s, zif01, k_byte, bd_s, zif01]
  have e2 : ∀ S, f_X7_feed p a b c d e S = (if 1 ≤ p ∧ p ≤ 5 then if 0 ≤ a ∧ a ≤ 255 then if 0 ≤ b ∧ b ≤ 255 then if 0 ≤ c ∧ c ≤ 255 then if 0 ≤ d ∧ d ≤ 255 then if 0 ≤ e ∧ e ≤ 255 then (if (S 47 11) + p ≤ 160 then f_X7_feed_68 zN p a b c d e 0 S else some (-4, S)) else some (-2, S) else some (-2, S) else some (-2, S) else some (-2, S) else some (-2, S) else some (-2, S)) := by
    intro S
    unfold f_X7_feed
    rw [k_in, bd_s, zif01, m_byte, bd_s, zif01, m_byte, bd_s, zif01, m_byte, bd_s, zif01, m_byte, bd_s, zif01, m_byte, bd_s, zif01]
  by_cases c0 : 1 ≤ p ∧ p ≤ 5
  case neg => exact same (-2) (by rw [e1, if_neg c0]) (fun S _ => by rw [e2, if_neg c0])
  by_cases c1 : 0 ≤ a ∧ a ≤ 255
  case neg => exact same (-2) (by rw [e1, if_pos c0, if_neg c1]) (fun S _ => by rw [e2, if_pos c0, if_neg c1])
  by_cases c2 : 0 ≤ b ∧ b ≤ 255
  case neg => exact same (-2) (by rw [e1, if_pos c0, if_pos c1, if_neg c2]) (fun S _ => by rw [e2, if_pos c0, if_pos c1, if_neg c2])
  by_cases c3 : 0 ≤ c ∧ c ≤ 255
  case neg => exact same (-2) (by rw [e1, if_pos c0, if_pos c1, if_pos c2, if_neg c3]) (fun S _ => by rw [e2, if_pos c0, if_pos c1, if_pos c2, if_neg c3])
  by_cases c4 : 0 ≤ d ∧ d ≤ 255
  case neg => exact same (-2) (by rw [e1, if_pos c0, if_pos c1, if_pos c2, if_pos c3, if_neg c4]) (fun S _ => by rw [e2, if_pos c0, if_pos c1, if_pos c2, if_pos c3, if_neg c4])
  by_cases c5 : 0 ≤ e ∧ e ≤ 255
  case neg => exact same (-2) (by rw [e1, if_pos c0, if_pos c1, if_pos c2, if_pos c3, if_pos c4, if_neg c5]) (fun S _ => by rw [e2, if_pos c0, if_pos c1, if_pos c2, if_pos c3, if_pos c4, if_neg c5])
  rw [if_pos c0, if_pos c1, if_pos c2, if_pos c3, if_pos c4, if_pos c5, hzc.1] at e1
  have e3 : ∀ S, zRM T U P K F z B Z S → f_X7_feed p a b c d e S = (if nI z + p ≤ 160 then f_X7_feed_68 zN p a b c d e 0 S else some (-4, S)) := fun S hm => by rw [e2, if_pos c0, if_pos c1, if_pos c2, if_pos c3, if_pos c4, if_pos c5, hm.2.2.2.1.1]
  have hz := hzc.2.1
  have hp0 : ¬ p < 0 := fun r => by
    have q := c0.1
    rw [Int32.le_iff_toInt_le] at q
    rw [Int32.lt_iff_toInt_lt] at r
    have u0 : (0 : Int32).toInt = 0 := rfl
    have u1 : (1 : Int32).toInt = 1 := rfl
    omega
  obtain ⟨n, hn5, rfl⟩ := nI_of2 (M := 5) (n := 5) rfl hp0 c0.2
  have hn1 : 1 ≤ n := (nI_leI (a := 1) (by omega) (by omega)).mp c0.1
  obtain ⟨a', ha, rfl⟩ := (pk_in2 a 255 (by omega)).resolve_left (fun r => r c1)
  obtain ⟨b', hb, rfl⟩ := (pk_in2 b 255 (by omega)).resolve_left (fun r => r c2)
  obtain ⟨c', hc', rfl⟩ := (pk_in2 c 255 (by omega)).resolve_left (fun r => r c3)
  obtain ⟨d', hd, rfl⟩ := (pk_in2 d 255 (by omega)).resolve_left (fun r => r c4)
  obtain ⟨e', he, rfl⟩ := (pk_in2 e 255 (by omega)).resolve_left (fun r => r c5)
  rw [nI_add] at e1
  have e4 : ∀ S, zRM T U P K F z B Z S → _ := fun S hm => (e3 S hm).trans (by rw [nI_add])
  by_cases cz : z + n ≤ 160
  · have lz : nI (z + n) ≤ 160 := nI_le (b := 160) cz (by omega)
    obtain ⟨S1, g1, h1⟩ := k_feed5 (a := a') (b := b') (c := c') (d := d') (e := e') (by omega) (by omega) (by omega) (by omega) (by omega) hn1 hn5 cz hzc
    have e5 : f_X6_feed (nI n) (nI a') (nI b') (nI c') (nI d') (nI e') s = some (nI (z + n), S1) := by rw [e1, if_pos lz, g1]
    refine ⟨T, U, P, K, F, z + n, bF B z (b5 a' b' c' d' e') n, Z, _, S1, e5, hx, ?_, fun S hm => ?_⟩
    · have fr : ∀ x k, ¬ ((x = 5 ∧ k = 1) ∨ x = 6) → S1 x k = s x k := fun x k hk => fr_X6_feed x k (by omega) rfl _ S1 e5
      obtain ⟨y1, y2, y3, y4, y5, y6, y7, y8⟩ := hc
      exact ⟨y1.of (fun x k hk => fr x k (by omega)), y2.of (fun k => fr _ _ (by omega)) (fun k => fr _ _ (by omega)), by rw [fr _ _ (by omega), y3], h1, by rw [fr _ _ (by omega), y5], fun q => (y6 q).of (fun x k hk => fr x k (by omega)), fun i hi => by rw [fr _ _ (by omega), fr _ _ (by omega)]; exact y7 i hi, fun i hi => by rw [fr _ _ (by omega)]; exact y8 i hi⟩
    · obtain ⟨S2, g2, h2⟩ := m_feedL (B := B) (z := z) (n := n) (a := a') (b := b') (c := c') (d := d') (e := e') (by omega) (by omega) (by omega) (by omega) (by omega) hn5 cz zN 0 S (by omega) (by unfold zN; omega) hm.2.2.2.1
      have e6 : f_X7_feed (nI n) (nI a') (nI b') (nI c') (nI d') (nI e') S = some (nI (z + n), S2) := by rw [e4 S hm, if_pos lz]; exact g2
      refine ⟨S2, e6, ?_⟩
      have fr : ∀ x k, ¬ ((x = 47 ∧ k = 11) ∨ x = 55) → S2 x k = S x k := fun x k hk => fr_X7_feed x k (by omega) rfl _ S2 e6
      obtain ⟨y1, y2, y3, y4, y5, y6, y7, y8, y9⟩ := hm
      exact ⟨y1.of (fun x k hk => fr x k (by omega)), y2.of (fun k => fr _ _ (by omega)) (fun k => fr _ _ (by omega)), by rw [fr _ _ (by omega), y3], h2, by rw [fr _ _ (by omega), y5], fun q => (y6 q).of (fun k => fr _ _ (by omega)) (fun k => fr _ _ (by omega)), fun i hi => by rw [fr _ _ (by omega), fr _ _ (by omega)]; exact y7 i hi, fun i hi => by rw [fr _ _ (by omega)]; exact y8 i hi, y9.of (fun k => fr _ _ (by omega))⟩
  · have lz : ¬ nI (z + n) ≤ 160 := nI_ge (a := 160) (by omega) (by omega)
    exact same (-4) (by rw [e1, if_neg lz]) (fun S hm => by rw [e4 S hm, if_neg lz])

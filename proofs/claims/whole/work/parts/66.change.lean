-- steps: what changes huts and loans
theorem dropT_h {k j i : Nat} {T : zT} (h : j < 5) : dropT k T j i = T j i := by
  unfold dropT
  rw [if_neg (by omega), if_neg (by omega)]
theorem passT_k {g t c j i : Nat} {T : zT} (h : j ≠ 0) : passT g t c T j i = T j i := by
  unfold passT
  rw [tU_off (by omega), tU_off (by omega)]
theorem step_forgive (p : Int32) : stepOk (f_X6_forgive p) (f_X7_forgive p) := by
  refine step_c (fun a k v s hk e => fr_X6_forgive a k (by omega) e) (fun a k v s hk e => fr_X7_forgive a k (by omega) e) ?_
  intro T U P K F z B Z s hx hc
  have h10 := hx.1.2.1
  have e1 : f_X6_forgive p s = (if 0 ≤ p ∧ p < nI (T 9 1) then (gd (zib p 10) <| nm (s 17 (zix p)) fun x3 => bd (f_X5_drop 9 p s) fun _ s5 => some (x3, s5)) else some (-5, s)) := by
    unfold f_X6_forgive
    rw [k_loanP p hc.1.c0.2.1, bd_s, zif01]
  have e2 : ∀ S, zRM T U P K F z B Z S → f_X7_forgive p S = (if 0 ≤ p ∧ p < nI (T 9 1) then (gd (zib p 10) <| nm (S 53 (zix p)) fun x3 => bd (f_X7_drops p S) fun _ s5 => some (x3, s5)) else some (-5, S)) := by
    intro S hm
    unfold f_X7_forgive
    rw [m_loanP p hm.1.c0.2.1 (by omega), bd_s, zif01]
  rcases ltP p (T 9 1) (by omega) with hn | ⟨h, hh, rfl⟩
  · exact ⟨T, U, P, K, F, z, B, Z, _, s, by rw [e1, if_neg hn], hx, hc, fun S hm => ⟨S, by rw [e2 S hm, if_neg hn], hm⟩⟩
  have th := ltP_t hh (n := T 9 1) (by omega)
  have g10 : zib (nI h) 10 = true := zib_nI (by omega) (by decide)
  have x10 : zix (nI h) = h := zix_nI (by omega)
  obtain ⟨S1, d1, o1⟩ := k_drop (hc.kOk hx) hh
  refine ⟨dropT h T, U, P, K, F, z, B, Z, nI (T 7 h), S1, by rw [e1, if_pos th, gd_t g10, nm_eq, x10, (hc.1.cl hh).2.2.1, d1, bd_s], hx.up (dropT_bd hx.1 hh) dropT_9.2.2.2 dropT_9.1 (fun i _ => ⟨dropT_h (by omega), dropT_h (by omega)⟩), hc.upT o1.2.1 (fun a k hk hn => fr_X5_drop a k (by unfold cC at hk; omega) rfl _ S1 d1), fun S hm => ?_⟩
  obtain ⟨S2, d2, o2⟩ := m_drop (hm.mOk hx) hh
  exact ⟨S2, by rw [e2 S hm, if_pos th, gd_t g10, nm_eq, x10, (hm.1.cl hh).2.2.1, d2, bd_s], hm.upT o2.1 (fun a k hk h1 h2 => fr_X7_drops a k (by omega) rfl _ S2 d2)⟩
theorem step_repay (p : Int32) : stepOk (f_X6_repay p) (f_X7_repay p) := by
  refine step_c (fun a k v s hk e => fr_X6_repay a k (by omega) e) (fun a k v s hk e => fr_X7_repay a k (by omega) e) ?_
  intro T U P K F z B Z s hx hc
  have h10 := hx.1.2.1
  have h6 := hx.1.1
  have e1 : f_X6_repay p s = (if 0 ≤ p ∧ p < nI (T 9 1) then (bd (f_X5_canRepay 9 p s) fun r3 s4 => if r3 = 0 then some ((-3), s4) else gd (zib p 10) <| nm (s4 17 (zix p)) fun x5 => bd (f_X5_payBack 9 p s4) fun _ s7 => bd (f_X5_drop 9 p s7) fun _ s9 => some (x5, s9)) else some (-5, s)) := by
    unfold f_X6_repay
    rw [k_loanP p hc.1.c0.2.1, bd_s, zif01]
  have e2 : ∀ S, zRM T U P K F z B Z S → f_X7_repay p S = (if 0 ≤ p ∧ p < nI (T 9 1) then (gd (zib p 10) <| nm (S 53 (zix p)) fun x3 => gd (zib p 10) <| gd (zib (3 * (S 52 (zix p))) 18) <| if x3 ≤ (S 50 (zix (3 * (S 52 (zix p))))) then gd (zib p 10) <| gd (zib p 10) <| bd (f_X7_moves (S 52 (zix p)) (S 51 (zix p)) x3 S) fun _ s5 => bd (f_X7_drops p s5) fun _ s7 => some (x3, s7) else some ((-3), S)) else some (-5, S)) := by
    intro S hm
    unfold f_X7_repay
    rw [m_loanP p hm.1.c0.2.1 (by omega), bd_s, zif01]
  rcases ltP p (T 9 1) (by omega) with hn | ⟨h, hh, rfl⟩
  · exact ⟨T, U, P, K, F, z, B, Z, _, s, by rw [e1, if_neg hn], hx, hc, fun S hm => ⟨S, by rw [e2 S hm, if_neg hn], hm⟩⟩
  have th := ltP_t hh (n := T 9 1) (by omega)
  have g10 : zib (nI h) 10 = true := zib_nI (by omega) (by decide)
  have x10 : zix (nI h) = h := zix_nI (by omega)
  have bl := hx.1.2.2.2.2.2.2 h hh
  have e3 : ∀ S, zRM T U P K F z B Z S → f_X7_repay (nI h) S = (if T 7 h ≤ T 0 (T 6 h) then bd (f_X7_moves (nI (T 6 h)) (nI (T 5 h)) (nI (T 7 h)) S) fun _ s5 => bd (f_X7_drops (nI h) s5) fun _ s7 => some (nI (T 7 h), s7) else some ((-3), S)) := by
    intro S hm
    have hl := hm.1.cl hh
    have hb0 := (hx.1.2.2.2.2.2.1 _ bl.2.1).1
    rw [e2 S hm, if_pos th, gd_t g10, nm_eq, gd_t g10, x10, hl.2.1, hl.2.2.1, hl.1, n3m, gd_t (zib_nI (by omega) (by decide)), zix_nI (by omega), (hm.1.ch bl.2.1).1, gd_t g10, gd_t g10]
    exact zif_c (nI_leI (by omega) (by omega)) rfl rfl
  have e4 : f_X6_repay (nI h) s = (if T 7 h ≤ T 0 (T 6 h) then nm (nI (T 7 h)) fun x5 => bd (f_X5_payBack 9 (nI h) s) fun _ s7 => bd (f_X5_drop 9 (nI h) s7) fun _ s9 => some (x5, s9) else some (-3, s)) := by
    rw [e1, if_pos th, k_canRepay (hc.kOk hx) hh, bd_s, zif01, gd_t g10, x10, (hc.1.cl hh).2.2.1]
  by_cases hq : T 7 h ≤ T 0 (T 6 h)
  · obtain ⟨S1, d1, o1⟩ := k_payBack (hc.kOk hx) hh hq
    have e9 : passT (T 6 h) (T 5 h) (T 7 h) T 9 1 = T 9 1 := passT_1.1
    obtain ⟨S2, d2, o2⟩ := k_drop o1 (by rw [e9]; exact hh)
    refine ⟨dropT h (passT (T 6 h) (T 5 h) (T 7 h) T), U, P, K, F, z, B, Z, nI (T 7 h), S2, by rw [e4, if_pos hq, nm_eq, d1, bd_s, d2, bd_s], hx.up o2.2.2.1 (by rw [dropT_9.2.2.2]; exact passT_1.1) (by rw [dropT_9.1]; exact passT_1.1) (fun i _ => ⟨by rw [dropT_h (by omega), passT_k (by omega)], by rw [dropT_h (by omega), passT_k (by omega)]⟩), hc.upT o2.2.1 (fun a k hk hn => ?_), fun S hm => ?_⟩
    · have q2 := fr_X5_drop a k (by unfold cC at hk; omega) rfl _ S2 d2
      rw [q2]
      exact fr_X5_payBack a k (by unfold cC at hk; omega) rfl _ S1 d1
    · obtain ⟨S3, d3, o3⟩ := m_moves (hm.mOk hx) bl.2.1 bl.1 hq
      obtain ⟨S4, d4, o4⟩ := m_drop o3 (by rw [e9]; exact hh)
      refine ⟨S4, by rw [e3 S hm, if_pos hq, d3, bd_s, d4, bd_s], hm.upT o4.1 (fun a k hk h1 h2 => ?_)⟩
      have q2 := fr_X7_drops a k (by omega) rfl _ S4 d4
      rw [q2]
      exact fr_X7_moves a k (by omega) rfl _ S3 d3
  · exact ⟨T, U, P, K, F, z, B, Z, -3, s, by rw [e4, if_neg hq], hx, hc, fun S hm => ⟨S, by rw [e3 S hm, if_neg hq], hm⟩⟩
-- a night
theorem growN_k {E : zEv} {j : Nat} (hj : j ≠ 7) : ∀ (m k : Nat) (T : zT) (i : Nat), growN E m k T j i = T j i := by
  intro m
  induction m with
  | zero => intro k T i; rfl
  | succ m ih =>
    intro k T i
    show growN E m (k + 1) (grow1 E k T) j i = _
    rw [ih]
    exact tU_off (by omega)
theorem endT_k {j : Nat} (hj : j = 3 ∨ j = 4) : ∀ (m k f : Nat) (T : zT) (i : Nat), (endT m k f T).2 j i = T j i := by
  intro m
  induction m with
  | zero => intro k f T i; rfl
  | succ m ih =>
    intro k f T i
    unfold endT
    split
    · exact ih _ _ _ _
    · split
      · rw [ih, dropT_h (by omega), passT_k (by omega)]
      · rw [ih, dropT_h (by omega), tU_off (by omega)]
theorem warm1_k {E : zEv} {h i j : Nat} {T : zT} (hj : j = 3 ∨ j = 4) : warm1 E h T j i = T j i := by
  unfold warm1 coolT burnT
  split
  · split
    · rw [tU_off (by omega)]
    · rw [tU_off (by omega), tU_off (by omega), tU_off (by omega)]
  · rw [tU_off (by omega), tU_off (by omega)]
theorem warmN_k {E : zEv} {j : Nat} (hj : j = 3 ∨ j = 4) : ∀ (m h : Nat) (T : zT) (i : Nat), warmN E m h T j i = T j i := by
  intro m
  induction m with
  | zero => intro h T i; rfl
  | succ m ih =>
    intro h T i
    show warmN E m (h + 1) (warm1 E h T) j i = _
    rw [ih, warm1_k hj]
theorem nightT_9 {E : zEv} {T : zT} : (nightT E T).2 9 0 = T 9 0 ∧ (nightT E T).2 9 2 = T 9 2 + 1 ∧ (nightT E T).2 9 3 = T 9 3 ∧ ∀ i, (nightT E T).2 3 i = T 3 i ∧ (nightT E T).2 4 i = T 4 i := by
  have he := endT_9 (T 9 1) 0 0 (growN E (T 9 1) 0 T)
  have e : (nightT E T).2 = tU (warmN E (T 9 0) 0 (endT (T 9 1) 0 0 (growN E (T 9 1) 0 T)).2) 9 2 (warmN E (T 9 0) 0 (endT (T 9 1) 0 0 (growN E (T 9 1) 0 T)).2 9 2 + 1) := rfl
  rw [e]
  refine ⟨?_, ?_, ?_, fun i => ⟨?_, ?_⟩⟩
  · rw [tU_off (by omega), warmN_9, he.1, growN_9]
  · rw [tU_hit, warmN_9, he.2.1, growN_9]
  · rw [tU_off (by omega), warmN_9, he.2.2, growN_9]
  · rw [tU_off (by omega), warmN_k (by omega), endT_k (by omega), growN_k (by omega)]
  · rw [tU_off (by omega), warmN_k (by omega), endT_k (by omega), growN_k (by omega)]
theorem tBd.low {M N : Nat} {T : zT} (h : tBd N T) (h2 : T 9 2 ≤ M) (hM : M ≤ 100000) : tBd M T := ⟨h.1, h.2.1, h2, h.2.2.2.1, hM, h.2.2.2.2.2⟩
theorem step_night : stepOk (fun s => f_X6_night s) (fun s => f_X7_night s) := by
  refine step_c (fun a k v s hk e => fr_X6_night a k (by omega) e) (fun a k v s hk e => fr_X7_night a k (by omega) e) ?_
  intro T U P K F z B Z s hx hc
  have h2 := hx.1.2.2.1
  have e1 : f_X6_night s = (if T 9 2 < 999 then (bd (f_X5_passNight 9 s) fun r1 s2 => some (r1, s2)) else some (-3, s)) := by
    unfold f_X6_night
    rw [hc.1.c0.2.2.1]
    exact zif_c (nI_ltI (a := T 9 2) (b := 999) (by omega) (by omega)) rfl rfl
  have e2 : ∀ S, zRM T U P K F z B Z S → f_X7_night S = (if T 9 2 < 999 then (bd (f_X7_nightOf S) fun r1 s2 => some (r1, s2)) else some (-3, S)) := by
    intro S hm
    unfold f_X7_night
    rw [hm.1.c0.2.2.1]
    have e9 : (nI (T 9 2) = 999) = (T 9 2 = 999) := nI_lit 999 (by omega) (by omega)
    by_cases c : T 9 2 < 999
    · rw [if_pos c, if_neg (by rw [e9]; omega)]
    · rw [if_neg c, if_pos (by rw [e9]; omega)]
  show ∃ T' U' P' K' F' z' B' Z' v S, f_X6_night s = some (v, S) ∧ _
  by_cases c : T 9 2 < 999
  · obtain ⟨S1, d1, o1⟩ := k_night (hc.kOk hx) (by omega)
    obtain ⟨n0, n2, n3, nk⟩ := nightT_9 (E := evP P) (T := T)
    refine ⟨(nightT (evP P) T).2, U, P, K, F, z, B, Z, nI (nightT (evP P) T).1, S1, by rw [e1, if_pos c, d1, bd_s], hx.up (o1.2.2.1.low (by omega) (by omega)) n3 n0 (fun i _ => nk i), hc.upT o1.2.1 (fun a k hk hn => fr_X5_passNight a k (by unfold cC at hk; omega) rfl _ S1 d1), fun S hm => ?_⟩
    obtain ⟨S2, d2, o2⟩ := m_night (hm.mOk hx) (by omega)
    exact ⟨S2, by show f_X7_night S = _; rw [e2 S hm, if_pos c, d2, bd_s], hm.upT o2.1 (fun a k hk h1 h2 => fr_X7_nightOf a k (by unfold cM at hk; omega) rfl _ S2 d2)⟩
  · exact ⟨T, U, P, K, F, z, B, Z, -3, s, by rw [e1, if_neg c], hx, hc, fun S hm => ⟨S, by show f_X7_night S = _; rw [e2 S hm, if_neg c], hm⟩⟩
-- lend
def lendT (a b c d : Nat) (T : zT) : zT := fun j i => if j = 9 ∧ i = 1 then T 9 1 + 1 else if j = 5 ∧ i = T 9 1 then a else if j = 6 ∧ i = T 9 1 then b else if j = 7 ∧ i = T 9 1 then c else if j = 8 ∧ i = T 9 1 then d else passT a b c T j i
theorem lendT_9 {a b c d : Nat} {T : zT} : lendT a b c d T 9 0 = T 9 0 ∧ lendT a b c d T 9 1 = T 9 1 + 1 ∧ lendT a b c d T 9 2 = T 9 2 ∧ lendT a b c d T 9 3 = T 9 3 := by
  unfold lendT
  refine ⟨?_, ?_, ?_, ?_⟩
  · rw [if_neg (by omega), if_neg (by omega), if_neg (by omega), if_neg (by omega), if_neg (by omega), passT_k (by omega)]
  · rw [if_pos ⟨rfl, rfl⟩]
  · rw [if_neg (by omega), if_neg (by omega), if_neg (by omega), if_neg (by omega), if_neg (by omega), passT_k (by omega)]
  · rw [if_neg (by omega), if_neg (by omega), if_neg (by omega), if_neg (by omega), if_neg (by omega), passT_k (by omega)]
theorem lendT_h {a b c d j i : Nat} {T : zT} (h : j < 5) : lendT a b c d T j i = passT a b c T j i := by
  unfold lendT
  rw [if_neg (by omega), if_neg (by omega), if_neg (by omega), if_neg (by omega), if_neg (by omega)]
theorem lendT_l {a b c d j i : Nat} {T : zT} (h : 5 ≤ j) (h2 : j < 9) (h3 : i ≠ T 9 1) : lendT a b c d T j i = T j i := by
  unfold lendT
  rw [if_neg (by omega), if_neg (by omega), if_neg (by omega), if_neg (by omega), if_neg (by omega), passT_k (by omega)]
theorem lendT_n {a b c d : Nat} {T : zT} : lendT a b c d T 5 (T 9 1) = a ∧ lendT a b c d T 6 (T 9 1) = b ∧ lendT a b c d T 7 (T 9 1) = c ∧ lendT a b c d T 8 (T 9 1) = d := by
  unfold lendT
  refine ⟨?_, ?_, ?_, ?_⟩
  · rw [if_neg (by omega), if_pos ⟨rfl, rfl⟩]
  · rw [if_neg (by omega), if_neg (by omega), if_pos ⟨rfl, rfl⟩]
  · rw [if_neg (by omega), if_neg (by omega), if_neg (by omega), if_pos ⟨rfl, rfl⟩]
  · rw [if_neg (by omega), if_neg (by omega), if_neg (by omega), if_neg (by omega), if_pos ⟨rfl, rfl⟩]
theorem lendT_bd {M a b c d : Nat} {T : zT} (h : tBd M T) (ha : a < T 9 0) (hb : b < T 9 0) (hc : c ≤ 9999) (hd : d ≤ 5000) (h1 : T 9 1 < 10) : tBd M (lendT a b c d T) := by
  have hp := passT_bd (t := b) (c := c) h ha
  obtain ⟨e0, e1, e2, e3⟩ := lendT_9 (a := a) (b := b) (c := c) (d := d) (T := T)
  obtain ⟨p1, p5, p6, p7, p8⟩ := passT_1 (g := a) (t := b) (c := c) (i := 0) (T := T)
  refine ⟨by rw [e0]; exact h.1, by rw [e1]; omega, by rw [e2]; exact h.2.2.1, by rw [e3]; exact h.2.2.2.1, h.2.2.2.2.1, fun i hi => ?_, fun k hk => ?_⟩
  · rw [e0] at hi
    rw [lendT_h (by omega), lendT_h (by omega), lendT_h (by omega), lendT_h (by omega), lendT_h (by omega)]
    exact hp.2.2.2.2.2.1 i (by rw [p1]; exact hi)
  · rw [e1] at hk
    rw [e0]
    by_cases q : k = T 9 1
    · subst q
      obtain ⟨n5, n6, n7, n8⟩ := lendT_n (a := a) (b := b) (c := c) (d := d) (T := T)
      rw [n5, n6, n7, n8]
      exact ⟨ha, hb, hc, hd⟩
    · rw [lendT_l (by omega) (by omega) q, lendT_l (by omega) (by omega) q, lendT_l (by omega) (by omega) q, lendT_l (by omega) (by omega) q]
      exact h.2.2.2.2.2.2 k (by omega)
theorem k_lends {E : zEv} {K M w a b c n : Nat} {s : zMem} {T : zT} (o : kOk E K M w s T) (ha : a < T 9 0) (hb : b < T 9 0) (hc : c ≤ 9999) (hd : T 9 2 + n ≤ 5000) :
    (T 9 1 = 10 → f_X5_lends w (nI a) (nI b) (nI c) (nI n) s = some (-4, s)) ∧ (T 9 1 < 10 → ¬ (T 2 a = 0 ∧ c ≤ T 0 a) → f_X5_lends w (nI a) (nI b) (nI c) (nI n) s = some (-3, s)) ∧ (T 9 1 < 10 → T 2 a = 0 ∧ c ≤ T 0 a → ∃ S, f_X5_lends w (nI a) (nI b) (nI c) (nI n) s = some (nI (T 9 1), S) ∧ kOk E K M w S (lendT a b c (T 9 2 + n) T)) := by
  have h6 := o.2.2.1.1
  have h10 := o.2.2.1.2.1
  have hw := o.1
  have hba := o.2.2.1.2.2.2.2.2.1 a ha
  have ca := o.2.1.ch ha
  have cc := o.2.1.c0
  unfold f_X5_lends
  rw [cc.2.1]
  have e10 : (nI (T 9 1) < 10) = (T 9 1 < 10) := propext (nI_ltI (b := 10) (by omega) (by omega))
  refine ⟨fun q => by rw [if_neg (by rw [e10]; omega)], fun q1 q2 => ?_, fun q1 q2 => ?_⟩
  · rw [if_pos (by rw [e10]; exact q1), gd_t (zib_nI (by omega) (by decide)), zix_nI (by omega), ca.2.2.1]
    by_cases c2 : T 2 a = 0
    · rw [if_neg (by rw [c2]; decide), gd_t (zib_nI (by omega) (by decide)), ca.1, if_neg (fun r => q2 ⟨c2, (nI_leI (by omega) (by omega)).mp r⟩)]
    · rw [if_pos (show (0 : Int32) < nI (T 2 a) from nI_lt (a := 0) (by omega) (by omega))]
  · rw [if_pos (by rw [e10]; exact q1), gd_t (zib_nI (by omega) (by decide)), zix_nI (by omega), ca.2.2.1, if_neg (by rw [q2.1]; decide), gd_t (zib_nI (by omega) (by decide)), ca.1, if_pos (nI_le q2.2 (by omega))]
    obtain ⟨S1, d1, o1⟩ := k_pass o ha hb q2.2
    have f1 : ∀ x k, x ≠ w + 1 → S1 x k = s x k := fun x k hx => fr_X5_pass x k (by omega) rfl _ S1 d1
    rw [d1, bd_s, f1 w 10 (by omega), cc.2.1, gd_t (zib_nI (by omega) (by decide)), nm_eq, zix_nI (by omega)]
    have w1 : zUp S1 (w + 6) (T 9 1) (nI a) w 10 = nI (T 9 1) := by rw [zUp_off (by omega), f1 w 10 (by omega), cc.2.1]
    rw [w1, gd_t (zib_nI (by omega) (by decide)), nm_eq, zix_nI (by omega)]
    have w2 : zUp (zUp S1 (w + 6) (T 9 1) (nI a)) (w + 7) (T 9 1) (nI b) w 10 = nI (T 9 1) := by rw [zUp_off (by omega), w1]
    rw [w2, gd_t (zib_nI (by omega) (by decide)), nm_eq, zix_nI (by omega)]
    have w3 : zUp (zUp (zUp S1 (w + 6) (T 9 1) (nI a)) (w + 7) (T 9 1) (nI b)) (w + 8) (T 9 1) (nI c) w 10 = nI (T 9 1) := by rw [zUp_off (by omega), w2]
    have w3' : zUp (zUp (zUp S1 (w + 6) (T 9 1) (nI a)) (w + 7) (T 9 1) (nI b)) (w + 8) (T 9 1) (nI c) w 11 = nI (T 9 2) := by rw [zUp_off (by omega), zUp_off (by omega), zUp_off (by omega), f1 w 11 (by omega), cc.2.2.1]
    rw [w3, gd_t (zib_nI (by omega) (by decide)), nm_eq, zix_nI (by omega), w3', nI_add]
    have w4 : zUp (zUp (zUp (zUp S1 (w + 6) (T 9 1) (nI a)) (w + 7) (T 9 1) (nI b)) (w + 8) (T 9 1) (nI c)) (w + 9) (T 9 1) (nI (T 9 2 + n)) w 10 = nI (T 9 1) := by rw [zUp_off (by omega), w3]
    rw [w4, nI_1, nm_eq, zUp_hit, show nI (T 9 1 + 1) - 1 = nI (T 9 1) from nI_pred _]
    obtain ⟨p1, p5, p6, p7, p8⟩ := passT_1 (g := a) (t := b) (c := c) (i := 0) (T := T)
    obtain ⟨e0, e1, e2, e3⟩ := lendT_9 (a := a) (b := b) (c := c) (d := T 9 2 + n) (T := T)
    obtain ⟨n5, n6, n7, n8⟩ := lendT_n (a := a) (b := b) (c := c) (d := T 9 2 + n) (T := T)
    have off : ∀ x k, ¬ (x = w ∧ k = 10) → ¬ (w + 6 ≤ x ∧ x ≤ w + 9 ∧ k = T 9 1) → zUp (zUp (zUp (zUp (zUp S1 (w + 6) (T 9 1) (nI a)) (w + 7) (T 9 1) (nI b)) (w + 8) (T 9 1) (nI c)) (w + 9) (T 9 1) (nI (T 9 2 + n))) w 10 (nI (T 9 1 + 1)) x k = S1 x k := fun x k h1 h2 => by rw [zUp_off (by omega), zUp_off (by omega), zUp_off (by omega), zUp_off (by omega), zUp_off (by omega)]
    refine ⟨_, rfl, o.fr (rC.mk ⟨?_, ?_, ?_, ?_⟩ (fun i hi => ?_) (fun k hk => ?_)) (lendT_bd o.2.2.1 ha hb hc hd q1) e3 (fun q k hq => by rw [off _ _ (by omega) (by omega), f1 _ _ (by omega)])⟩
    · rw [off _ _ (by omega) (by omega), e0, f1 _ _ (by omega), cc.1]
    · rw [zUp_hit, e1]
    · rw [off _ _ (by omega) (by omega), e2, f1 _ _ (by omega), cc.2.2.1]
    · rw [off _ _ (by omega) (by omega), e3, f1 _ _ (by omega), cc.2.2.2]
    · rw [e0] at hi
      rw [off _ _ (by omega) (by omega), off _ _ (by omega) (by omega), off _ _ (by omega) (by omega), off _ _ (by omega) (by omega), off _ _ (by omega) (by omega), lendT_h (by omega), lendT_h (by omega), lendT_h (by omega), lendT_h (by omega), lendT_h (by omega)]
      exact o1.2.1.ch (by rw [p1]; exact hi)
    · rw [e1] at hk
      by_cases qk : k = T 9 1
      · subst qk
        rw [n5, n6, n7, n8]
        refine ⟨?_, ?_, ?_, ?_⟩
        · rw [zUp_off (by omega), zUp_off (by omega), zUp_off (by omega), zUp_off (by omega), zUp_hit]
        · rw [zUp_off (by omega), zUp_off (by omega), zUp_off (by omega), zUp_hit]
        · rw [zUp_off (by omega), zUp_off (by omega), zUp_hit]
        · rw [zUp_off (by omega), zUp_hit]
      · rw [off _ _ (by omega) (by omega), off _ _ (by omega) (by omega), off _ _ (by omega) (by omega), off _ _ (by omega) (by omega), lendT_l (by omega) (by omega) qk, lendT_l (by omega) (by omega) qk, lendT_l (by omega) (by omega) qk, lendT_l (by omega) (by omega) qk]
        have := o.2.1.cl (k := k) (by omega)
        rw [f1 _ _ (by omega), f1 _ _ (by omega), f1 _ _ (by omega), f1 _ _ (by omega)]
        exact this
theorem m_may {E : zEv} {K M a c : Nat} {s : zMem} {T : zT} (o : mOk E K M s T) (ha : a < T 9 0) (hc : c ≤ 9999) : f_X7_mayLend (nI a) (nI c) s = some (if T 2 a = 0 ∧ c ≤ T 0 a then 1 else 0, s) := by
  have h6 := o.2.1.1
  have hba := o.2.1.2.2.2.2.2.1 a ha
  have ca := o.1.ch ha
  unfold f_X7_mayLend
  rw [n3m2, n3m, gd_t (zib_nI (by omega) (by decide)), zix_nI (by omega), ca.2.2.1]
  have e0 : (nI (T 2 a) = 0) = (T 2 a = 0) := nI_lit 0 (by omega) (by omega)
  by_cases q : T 2 a = 0
  · rw [if_pos (by rw [e0]; exact q), gd_t (zib_nI (by omega) (by decide)), zix_nI (by omega), ca.1]
    by_cases q2 : c ≤ T 0 a
    · rw [if_neg (nI_nlt q2 (by omega)), if_pos ⟨q, q2⟩]
    · rw [if_pos (nI_lt (by omega) (by omega)), if_neg (fun r => q2 r.2)]
  · rw [if_neg (by rw [e0]; exact q), if_neg (fun r => q r.1)]
theorem m_lends {E : zEv} {K M a b v : Nat} {s : zMem} {T : zT} (o : mOk E K M s T) (ha : a < T 9 0) (hb : b < T 9 0) (hv : v ≤ 999999) (hd : T 9 2 + v % 100 ≤ 5000) (h1 : T 9 1 < 10) (hq : v / 100 ≤ T 0 a) : ∃ S, f_X7_lends (nI a) (nI b) (nI v) s = some ((), S) ∧ mOk E K M S (lendT a b (v / 100) (T 9 2 + v % 100) T) ∧ S 47 8 = nI (T 9 1 + 1) := by
  have h6 := o.2.1.1
  have hba := o.2.1.2.2.2.2.2.1 a ha
  have cc := o.1.c0
  have ed : nI v / 100 = nI (v / 100) := pk_div (d := 100) (by omega) (by omega) (by omega)
  have er : zrem (nI v) 100 = nI (v % 100) := pk_rem (d := 100) (by omega) (by omega) (by omega)
  unfold f_X7_lends
  rw [ed, er, cc.2.1, gd_t (zib_nI (by omega) (by decide)), nm_eq, zix_nI (by omega)]
  have w1 : zUp s 51 (T 9 1) (nI a) 47 8 = nI (T 9 1) := by rw [zUp_off (by omega), cc.2.1]
  rw [w1, gd_t (zib_nI (by omega) (by decide)), nm_eq, zix_nI (by omega)]
  have w2 : zUp (zUp s 51 (T 9 1) (nI a)) 52 (T 9 1) (nI b) 47 8 = nI (T 9 1) := by rw [zUp_off (by omega), w1]
  rw [w2, gd_t (zib_nI (by omega) (by decide)), nm_eq, zix_nI (by omega)]
  have w3 : zUp (zUp (zUp s 51 (T 9 1) (nI a)) 52 (T 9 1) (nI b)) 53 (T 9 1) (nI (v / 100)) 47 8 = nI (T 9 1) := by rw [zUp_off (by omega), w2]
  have w3' : zUp (zUp (zUp s 51 (T 9 1) (nI a)) 52 (T 9 1) (nI b)) 53 (T 9 1) (nI (v / 100)) 47 9 = nI (T 9 2) := by rw [zUp_off (by omega), zUp_off (by omega), zUp_off (by omega), cc.2.2.1]
  rw [w3, gd_t (zib_nI (by omega) (by decide)), nm_eq, zix_nI (by omega), w3', nI_add]
  have off : ∀ x k, ¬ (51 ≤ x ∧ x ≤ 54 ∧ k = T 9 1) → zUp (zUp (zUp (zUp s 51 (T 9 1) (nI a)) 52 (T 9 1) (nI b)) 53 (T 9 1) (nI (v / 100))) 54 (T 9 1) (nI (T 9 2 + v % 100)) x k = s x k := fun x k hk => by rw [zUp_off (by omega), zUp_off (by omega), zUp_off (by omega), zUp_off (by omega)]
  have hits : zUp (zUp (zUp (zUp s 51 (T 9 1) (nI a)) 52 (T 9 1) (nI b)) 53 (T 9 1) (nI (v / 100))) 54 (T 9 1) (nI (T 9 2 + v % 100)) 51 (T 9 1) = nI a ∧ zUp (zUp (zUp (zUp s 51 (T 9 1) (nI a)) 52 (T 9 1) (nI b)) 53 (T 9 1) (nI (v / 100))) 54 (T 9 1) (nI (T 9 2 + v % 100)) 52 (T 9 1) = nI b ∧ zUp (zUp (zUp (zUp s 51 (T 9 1) (nI a)) 52 (T 9 1) (nI b)) 53 (T 9 1) (nI (v / 100))) 54 (T 9 1) (nI (T 9 2 + v % 100)) 53 (T 9 1) = nI (v / 100) ∧ zUp (zUp (zUp (zUp s 51 (T 9 1) (nI a)) 52 (T 9 1) (nI b)) 53 (T 9 1) (nI (v / 100))) 54 (T 9 1) (nI (T 9 2 + v % 100)) 54 (T 9 1) = nI (T 9 2 + v % 100) := by
    refine ⟨?_, ?_, ?_, ?_⟩
    · rw [zUp_off (by omega), zUp_off (by omega), zUp_off (by omega), zUp_hit]
    · rw [zUp_off (by omega), zUp_off (by omega), zUp_hit]
    · rw [zUp_off (by omega), zUp_hit]
    · rw [zUp_hit]
  generalize zUp (zUp (zUp (zUp s 51 (T 9 1) (nI a)) 52 (T 9 1) (nI b)) 53 (T 9 1) (nI (v / 100))) 54 (T 9 1) (nI (T 9 2 + v % 100)) = S4 at off hits
  have m4 : mOk E K M S4 T := o.fr (rM.mk (by rw [off _ _ (by omega), off _ _ (by omega), off _ _ (by omega), off _ _ (by omega)]; exact cc) (fun i hi => by rw [off _ _ (by omega), off _ _ (by omega), off _ _ (by omega), off _ _ (by omega), off _ _ (by omega)]; exact o.1.ch hi) (fun k hk => by rw [off _ _ (by omega), off _ _ (by omega), off _ _ (by omega), off _ _ (by omega)]; exact o.1.cl hk)) o.2.1 rfl (fun q k hq => off _ _ (by omega))
  obtain ⟨S1, d1, o1⟩ := m_moves m4 ha hb hq
  have f1 : ∀ x k, x ≠ 50 → S1 x k = S4 x k := fun x k hx => fr_X7_moves x k (by omega) rfl _ S1 d1
  rw [d1, bd_s, f1 47 8 (by omega), off 47 8 (by omega), cc.2.1, nI_1, nm_eq]
  obtain ⟨p1, p5, p6, p7, p8⟩ := passT_1 (g := a) (t := b) (c := v / 100) (i := 0) (T := T)
  obtain ⟨e0, e1, e2, e3⟩ := lendT_9 (a := a) (b := b) (c := v / 100) (d := T 9 2 + v % 100) (T := T)
  obtain ⟨n5, n6, n7, n8⟩ := lendT_n (a := a) (b := b) (c := v / 100) (d := T 9 2 + v % 100) (T := T)
  refine ⟨_, rfl, o.fr (rM.mk ⟨?_, ?_, ?_, ?_⟩ (fun i hi => ?_) (fun k hk => ?_)) (lendT_bd o.2.1 ha hb (by omega) hd h1) e3 (fun q k hq => by rw [zUp_off (by omega), f1 _ _ (by omega), off _ _ (by omega)]), zUp_hit _ _ _ _⟩
  · rw [zUp_off (by omega), e0, f1 _ _ (by omega), off _ _ (by omega), cc.1]
  · rw [zUp_hit, e1]
  · rw [zUp_off (by omega), e2, f1 _ _ (by omega), off _ _ (by omega), cc.2.2.1]
  · rw [zUp_off (by omega), e3, f1 _ _ (by omega), off _ _ (by omega), cc.2.2.2]
  · rw [e0] at hi
    rw [zUp_off (by omega), zUp_off (by omega), zUp_off (by omega), zUp_off (by omega), zUp_off (by omega), lendT_h (by omega), lendT_h (by omega), lendT_h (by omega), lendT_h (by omega), lendT_h (by omega)]
    exact o1.1.ch (by rw [p1]; exact hi)
  · rw [e1] at hk
    rw [zUp_off (by omega), zUp_off (by omega), zUp_off (by omega), zUp_off (by omega), f1 _ _ (by omega), f1 _ _ (by omega), f1 _ _ (by omega), f1 _ _ (by omega)]
    by_cases qk : k = T 9 1
    · subst qk
      rw [n5, n6, n7, n8]
      exact hits
    · rw [off _ _ (by omega), off _ _ (by omega), off _ _ (by omega), off _ _ (by omega), lendT_l (by omega) (by omega) qk, lendT_l (by omega) (by omega) qk, lendT_l (by omega) (by omega) qk, lendT_l (by omega) (by omega) qk]
      exact o.1.cl (by omega)
def cnP (p : Int32) (m : Nat) : Prop := ∃ n, p = nI n ∧ 101 ≤ n ∧ n ≤ 999999 ∧ 1 ≤ n % 100 ∧ n % 100 ≤ m
theorem k_cn {p : Int32} {m : Nat} (hm : m < 100) (s : zMem) : (cnP p m → f_X6_isCoalNights p (nI m) s = some (1, s)) ∧ (¬ cnP p m → f_X6_isCoalNights p (nI m) s = some (0, s)) := by
  unfold f_X6_isCoalNights
  by_cases h0 : p < 0
  · rw [if_pos h0]
    refine ⟨fun q => ?_, fun _ => rfl⟩
    obtain ⟨n, rfl, h1, h2, _⟩ := q
    exact absurd h0 (nI_pos (by omega))
  · obtain ⟨n, hn, rfl⟩ := nI_of h0
    have ed : nI n / 100 = nI (n / 100) := pk_div (d := 100) (by omega) (by omega) (by omega)
    have er : zrem (nI n) 100 = nI (n % 100) := pk_rem (d := 100) (by omega) (by omega) (by omega)
    rw [if_neg h0, ed, er, k_isFromTo, bd_s, zif01, k_isFromTo, bd_s, zif01]
    have c1 : ((1 : Int32) ≤ nI (n / 100) ∧ nI (n / 100) ≤ 9999) ↔ (1 ≤ n / 100 ∧ n / 100 ≤ 9999) := and_congr (nI_leI (a := 1) (by omega) (by omega)) (nI_leI (b := 9999) (by omega) (by omega))
    have c2 : ((1 : Int32) ≤ nI (n % 100) ∧ nI (n % 100) ≤ nI m) ↔ (1 ≤ n % 100 ∧ n % 100 ≤ m) := and_congr (nI_leI (a := 1) (by omega) (by omega)) (nI_leI (by omega) (by omega))
    refine ⟨fun q => ?_, fun q => ?_⟩
    · obtain ⟨n2, e, h1, h2, h3, h4⟩ := q
      have := (nI_eq hn (by omega)).mp e
      subst this
      rw [if_pos (c1.mpr (by omega)), if_pos (c2.mpr (by omega))]
    · by_cases d1 : 1 ≤ n / 100 ∧ n / 100 ≤ 9999
      · rw [if_pos (c1.mpr d1), if_neg (fun r => q ⟨n, rfl, by have := c2.mp r; omega, by omega, (c2.mp r).1, (c2.mp r).2⟩)]
      · rw [if_neg (fun r => d1 (c1.mp r))]
theorem m_cn {p : Int32} (s : zMem) : (cnP p 99 → f_X7_areCoalNights p s = some (1, s)) ∧ (¬ cnP p 99 → f_X7_areCoalNights p s = some (0, s)) := by
  unfold f_X7_areCoalNights
  rw [k_in, bd_s, zif01]
  by_cases h0 : (101 : Int32) ≤ p ∧ p ≤ 999999
  · have hp : ¬ p < 0 := fun r => by
      have a := h0.1
      rw [Int32.le_iff_toInt_le] at a
      rw [Int32.lt_iff_toInt_lt] at r
      have e0 : (0 : Int32).toInt = 0 := rfl
      have e1 : (101 : Int32).toInt = 101 := rfl
      omega
    obtain ⟨n, hn, rfl⟩ := nI_of hp
    have b1 := (nI_leI (a := 101) (by omega) hn).mp h0.1
    have b2 := (nI_leI (b := 999999) hn (by omega)).mp h0.2
    have er : zrem (nI n) 100 = nI (n % 100) := pk_rem (d := 100) (by omega) (by omega) (by omega)
    rw [if_pos h0, er, zif_le0 (by omega)]
    refine ⟨fun q => ?_, fun q => ?_⟩
    · obtain ⟨n2, e, h1, h2, h3, h4⟩ := q
      have := (nI_eq hn (by omega)).mp e
      subst this
      rw [if_neg (by omega)]
    · rw [if_pos]
      by_cases c : n % 100 = 0
      · exact c
      · exact absurd ⟨n, rfl, b1, b2, by omega, by omega⟩ q
  · rw [if_neg h0]
    refine ⟨fun q => ?_, fun _ => rfl⟩
    obtain ⟨n, rfl, h1, h2, _⟩ := q
    exact absurd ⟨nI_le (a := 101) h1 (by omega), nI_le (b := 999999) h2 (by omega)⟩ h0
theorem step_lend (p q : Int32) : stepOk (f_X6_lend p q) (f_X7_lend p q) := by
  refine step_c (fun a k v s hk e => fr_X6_lend a k (by omega) e) (fun a k v s hk e => fr_X7_lend a k (by omega) e) ?_
  intro T U P K F z B Z s hx hc
  have h6 := hx.1.1
  have h10 := hx.1.2.1
  have h999 := hx.1.2.2.1
  have same : ∀ v, f_X6_lend p q s = some (v, s) → (∀ S, zRM T U P K F z B Z S → f_X7_lend p q S = some (v, S)) → ∃ T' U' P' K' F' z' B' Z' v S, f_X6_lend p q s = some (v, S) ∧ zRX T' U' P' K' F' Z' ∧ zRC T' U' P' K' F' z' B' Z' S ∧ ∀ S, zRM T U P K F z B Z S → ∃ S', f_X7_lend p q S = some (v, S') ∧ zRM T' U' P' K' F' z' B' Z' S' := fun v q1 q2 => ⟨T, U, P, K, F, z, B, Z, v, s, q1, hx, hc, fun S hm => ⟨S, q2 S hm, hm⟩⟩
  by_cases hp : p < 0
  · refine same (-5) ?_ (fun S hm => ?_)
    · unfold f_X6_lend
      rw [nm_eq, nm_eq, if_pos hp]
    · unfold f_X7_lend
      rw [nm_eq, nm_eq, k_in, bd_s, zif01, if_neg (fun r => absurd hp (Int32.not_lt.mpr r.1))]
  obtain ⟨n, hn, rfl⟩ := nI_of hp
  have ed : nI n / 10 = nI (n / 10) := pk_div (d := 10) (by omega) (by omega) (by omega)
  have er : zrem (nI n) 10 = nI (n % 10) := pk_rem (d := 10) (by omega) (by omega) (by omega)
  have lt1 : ∀ a : Nat, a < 2 ^ 31 → ((0 ≤ nI a ∧ nI a < nI (T 9 0)) ↔ a < T 9 0) := fun a ha => ⟨fun r => (nI_ltI ha (by omega)).mp r.2, fun r => ⟨nI_pos' ha, nI_lt r (by omega)⟩⟩
  have eqn : nI (n / 10) = nI (n % 10) ↔ n / 10 = n % 10 := nI_eq (by omega) (by omega)
  have e1 : f_X6_lend (nI n) q s = (if n / 10 < T 9 0 then if n % 10 < T 9 0 then if n / 10 = n % 10 then some (-5, s) else (bd (f_X6_isCoalNights q 99 s) fun r7 s8 => if r7 = 0 then some ((-7), s8) else bd (f_X5_lends 9 (nI (n / 10)) (nI (n % 10)) (q / 100) (zrem q 100) s8) fun r9 s10 => some (r9, s10)) else some (-5, s) else some (-5, s)) := by
    unfold f_X6_lend
    rw [nm_eq, nm_eq, if_neg hp, ed, er, k_hutP _ hc.1.c0.1, bd_s, zif01, k_hutP _ hc.1.c0.1, bd_s, zif01]
    refine zif_c (lt1 _ (by omega)) (zif_c (lt1 _ (by omega)) (zif_c eqn rfl rfl) rfl) rfl
  have e2 : ∀ S, zRM T U P K F z B Z S → f_X7_lend (nI n) q S = (if n ≤ 55 then if n / 10 < T 9 0 then if n % 10 < T 9 0 then if n / 10 = n % 10 then some (-5, S) else (bd (f_X7_areCoalNights q S) fun r9 s10 => if r9 = 0 then some ((-7), s10) else if (s10 47 8) = 10 then some ((-4), s10) else bd (f_X7_mayLend (nI (n / 10)) (q / 100) s10) fun r11 s12 => if r11 = 0 then some ((-3), s12) else bd (f_X7_lends (nI (n / 10)) (nI (n % 10)) q s12) fun _ s14 => some ((s14 47 8) - 1, s14)) else some (-5, S) else some (-5, S) else some (-5, S)) := by
    intro S hm
    unfold f_X7_lend
    rw [nm_eq, nm_eq, ed, er, k_in, bd_s, zif01, m_hutP _ hm.1.c0.1 (by omega), bd_s, zif01, m_hutP _ hm.1.c0.1 (by omega), bd_s, zif01]
    refine zif_c ⟨fun r => (nI_leI (b := 55) hn (by omega)).mp r.2, fun r => ⟨nI_pos' hn, nI_le (b := 55) r (by omega)⟩⟩ (zif_c (lt1 _ (by omega)) (zif_c (lt1 _ (by omega)) (zif_c eqn rfl rfl) rfl) rfl) rfl
  by_cases g1 : n / 10 < T 9 0
  · by_cases g2 : n % 10 < T 9 0
    · by_cases g3 : n / 10 = n % 10
      · exact same (-5) (by rw [e1, if_pos g1, if_pos g2, if_pos g3]) (fun S hm => by rw [e2 S hm, if_pos (by omega), if_pos g1, if_pos g2, if_pos g3])
      · rw [if_pos g1, if_pos g2, if_neg g3] at e1
        have e3 : ∀ S, zRM T U P K F z B Z S → _ := fun S hm => (e2 S hm).trans (by rw [if_pos (show n ≤ 55 by omega), if_pos g1, if_pos g2, if_neg g3])
        by_cases cq : cnP q 99
        · have k1 := (k_cn (p := q) (m := 99) (by omega) s).1 cq
          obtain ⟨v, rfl, v1, v2, v3, v4⟩ := id cq
          have vd : nI v / 100 = nI (v / 100) := pk_div (d := 100) (by omega) (by omega) (by omega)
          have vr : zrem (nI v) 100 = nI (v % 100) := pk_rem (d := 100) (by omega) (by omega) (by omega)
          have k1' : f_X6_isCoalNights (nI v) 99 s = some (1, s) := k1
          rw [k1', bd_s, if_neg (by decide), vd, vr] at e1
          obtain ⟨l1, l2, l3⟩ := k_lends (c := v / 100) (n := v % 100) (hc.kOk hx) g1 g2 (by omega) (by omega)
          have e4 : ∀ S, zRM T U P K F z B Z S → f_X7_lend (nI n) (nI v) S = (if T 9 1 = 10 then some (-4, S) else if T 2 (n / 10) = 0 ∧ v / 100 ≤ T 0 (n / 10) then (bd (f_X7_lends (nI (n / 10)) (nI (n % 10)) (nI v) S) fun _ s14 => some ((s14 47 8) - 1, s14)) else some (-3, S)) := by
            intro S hm
            rw [e3 S hm, (m_cn S).1 cq, bd_s, if_neg (by decide), hm.1.c0.2.1, vd, m_may (hm.mOk hx) g1 (by omega), bd_s, zif01]
            exact zif_c (nI_eq (b := 10) (by omega) (by omega)) rfl rfl
          by_cases c10 : T 9 1 = 10
          · exact same (-4) (by rw [e1, l1 c10, bd_s]) (fun S hm => by rw [e4 S hm, if_pos c10])
          · by_cases cm : T 2 (n / 10) = 0 ∧ v / 100 ≤ T 0 (n / 10)
            · obtain ⟨S1, d1, o1⟩ := l3 (by omega) cm
              obtain ⟨t0, t1, t2, t3⟩ := lendT_9 (a := n / 10) (b := n % 10) (c := v / 100) (d := T 9 2 + v % 100) (T := T)
              refine ⟨lendT (n / 10) (n % 10) (v / 100) (T 9 2 + v % 100) T, U, P, K, F, z, B, Z, nI (T 9 1), S1, by rw [e1, d1, bd_s], hx.up o1.2.2.1 t3 t0 (fun i _ => ⟨by rw [lendT_h (by omega), passT_k (by omega)], by rw [lendT_h (by omega), passT_k (by omega)]⟩), hc.upT o1.2.1 (fun a k hk hn => fr_X5_lends a k (by unfold cC at hk; omega) rfl _ S1 d1), fun S hm => ?_⟩
              obtain ⟨S2, d2, o2, e8⟩ := m_lends (hm.mOk hx) g1 g2 v2 (by omega) (by omega) cm.2
              exact ⟨S2, by rw [e4 S hm, if_neg c10, if_pos cm, d2, bd_s, e8, nI_pred], hm.upT o2.1 (fun a k hk h1 h2 => fr_X7_lends a k (by omega) rfl _ S2 d2)⟩
            · exact same (-3) (by rw [e1, l2 (by omega) cm, bd_s]) (fun S hm => by rw [e4 S hm, if_neg c10, if_neg cm])
        · have k0 : f_X6_isCoalNights q 99 s = some (0, s) := (k_cn (p := q) (m := 99) (by omega) s).2 cq
          exact same (-7) (by rw [e1, k0, bd_s, if_pos rfl]) (fun S hm => by rw [e3 S hm, (m_cn S).2 cq, bd_s, if_pos rfl])
    · refine same (-5) (by rw [e1, if_pos g1, if_neg g2]) (fun S hm => ?_)
      rw [e2 S hm]
      by_cases c55 : n ≤ 55
      · rw [if_pos c55, if_pos g1, if_neg g2]
      · rw [if_neg c55]
  · refine same (-5) (by rw [e1, if_neg g1]) (fun S hm => ?_)
    rw [e2 S hm]
    by_cases c55 : n ≤ 55
    · rw [if_pos c55, if_neg g1]
    · rw [if_neg c55]

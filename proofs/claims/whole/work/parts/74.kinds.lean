-- told nights: kinds
theorem tU_tU {T : zT} {j i u v : Nat} : tU (tU T j i u) j i v = tU T j i v := by
  funext x y
  unfold tU
  by_cases c : x = j ∧ y = i
  · rw [if_pos c, if_pos c]
  · rw [if_neg c, if_neg c, if_neg c]
theorem tU_id {T : zT} {j i v : Nat} (h : v = T j i) : tU T j i v = T := by
  funext x y
  unfold tU
  by_cases c : x = j ∧ y = i
  · rw [if_pos c, h, c.1, c.2]
  · rw [if_neg c]
theorem rM.u3 {s : zMem} {T : zT} (h : rM s T) (i v : Nat) : rM (zUp s 48 i (nI v)) (tU T 3 i v) := h.up (j := 3) (by omega) i v
theorem rM.u4 {s : zMem} {T : zT} (h : rM s T) (i v : Nat) : rM (zUp s 49 i (nI v)) (tU T 4 i v) := h.up (j := 4) (by omega) i v
def kinL (t : Nat) : Nat := if t = 0 then 6 else 10
theorem kin_bd {M t h v : Nat} {T : zT} (hb : tBd M T) (ht : t ≤ 1) (hv : v < kinL t) : tBd M (tU T (3 + t) h v) := by
  unfold kinL at hv
  refine hb.up (by omega) ?_
  split at hv <;> omega
theorem k_kinds {E : zEv} {K j z h t : Nat} {C : Nat → Int32} {T : zT} (hj : j < 4) (hz : z ≤ 20) (hh : h < T 9 0) (ht : t ≤ 1) : ∀ (n v : Nat) (x : Int32) (s : zMem), kOk E K 999 9 s T → v ≤ kinL t → kinL t - v < n → s 44 j = nI z → (∀ i, i < z → s 45 (40 * j + i) = C i) → ∃ S, f_X6_kinds_34 n (nI j) (nI h) (nI t) x (nI v) s = some (bitF (fun v => unlF E C h z 0 (tU T (3 + t) h v)) (kinL t - v) v x, S) := by
  intro n
  induction n with
  | zero => intro v x s _ _ hn; omega
  | succ n ih =>
    intro v x s o hv hn h44 hC
    have h6 := o.2.2.1.1
    rw [f_X6_kinds_34]
    by_cases q : kinL t ≤ v
    · have fin : ∀ c : Int32 → Int32 → Int32 → Int32 → Int32 → zMem → Option (Int32 × zMem), ∀ b : Nat, b < v → f_X6_kinds_46 c (nI j) (nI h) (nI t) x (nI v) (nI b) (nI v) s = some (x, s) := by
        intro c b hb
        unfold f_X6_kinds_46
        rw [if_pos (nI_lt hb (by unfold kinL at hv; split at hv <;> omega))]
      rw [show kinL t - v = 0 by omega]
      rcases (by omega : t = 0 ∨ t = 1) with rfl | rfl
      · rw [if_pos (show nI 0 = 0 from rfl)]
        exact ⟨s, fin _ 5 (by unfold kinL at q; simp at q; omega)⟩
      · rw [if_neg (show ¬ nI 1 = 0 by decide)]
        exact ⟨s, fin _ 9 (by unfold kinL at q; simp at q; omega)⟩
    · obtain ⟨S1, t1, o1⟩ := k_think o
      have f1 : ∀ a k, (a < 19 ∧ a ≠ 4) ∨ a = 44 ∨ a = 45 → S1 a k = s a k := fun a k hk => fr_X6_think a k (by omega) rfl _ S1 t1
      have bd := kin_bd (h := h) (v := v) o.2.2.1 ht (by omega)
      have o2 : kOk E K 999 20 (zUp S1 (20 + ((3 + t) + 1)) h (nI v)) (tU T (3 + t) h v) := o1.fr (o1.2.1.up (j := 3 + t) (by omega) h v) bd (tU_off (by omega)) (fun q k hq => zUp_off (by omega))
      have g1 : ∀ a k, (a < 19 ∧ a ≠ 4) ∨ a = 44 ∨ a = 45 → zUp S1 (20 + ((3 + t) + 1)) h (nI v) a k = s a k := fun a k hk => by rw [zUp_off (by omega), f1 a k hk]
      have e9 : tU T (3 + t) h v 9 0 = T 9 0 := tU_off (by omega)
      obtain ⟨S2, t2, q1, q2, q3⟩ := k_isT (C := C) (h := h) o2 hj hz (by rw [e9]; exact hh) (by rw [g1 _ _ (by omega), h44]) (fun q hq => by rw [g1 _ _ (by omega), hC q hq])
      have now : kOk E K 999 9 S2 T := k_now o (fun a k h1 h2 => by rw [q1 a k h1 h2, g1 a k (by omega)])
      have go : ∀ y : Int32, ∃ S, f_X6_kinds_34 n (nI j) (nI h) (nI t) y (nI (v + 1)) S2 = some (bitF (fun v => unlF E C h z 0 (tU T (3 + t) h v)) (kinL t - (v + 1)) (v + 1) y, S) := fun y => ih (v + 1) y S2 now (by omega) (by omega) (by rw [q2, g1 _ _ (by omega), h44]) (fun q hq => by rw [q3, g1 _ _ (by omega), hC q hq])
      have hv10 : v < 10 := by unfold kinL at q; split at q <;> omega
      rw [show kinL t - v = (kinL t - (v + 1)) + 1 by omega]
      unfold bitF
      rcases (by omega : t = 0 ∨ t = 1) with rfl | rfl
      · have hv6 : v < 6 := by unfold kinL at q; simp at q; omega
        rw [if_pos (show nI 0 = 0 from rfl)]
        unfold f_X6_kinds_46
        have t2' : f_X6_isTold (nI j) (nI h) (zUp S1 24 h (nI v)) = some (if unlF E C h z 0 (tU T (3 + 0) h v) = -1 then 1 else 0, S2) := t2
        rw [if_neg (show ¬ (5 : Int32) < nI v from nI_nlt (a := 5) (by omega) (by omega)), t1, bd_s, if_pos (show nI 0 = 0 from rfl), gd_t (zib_nI (by omega) (by decide)), zix_nI (by omega), nm_eq, t2', bd_s, zif01]
        by_cases c : unlF E C h z 0 (tU T (3 + 0) h v) = -1
        · rw [if_pos c, if_pos c, nm_eq, nm_eq, nI_1]
          exact go _
        · rw [if_neg c, if_neg c, nm_eq, nI_1]
          exact go _
      · rw [if_neg (show ¬ nI 1 = 0 by decide)]
        unfold f_X6_kinds_46
        have t2' : f_X6_isTold (nI j) (nI h) (zUp S1 25 h (nI v)) = some (if unlF E C h z 0 (tU T (3 + 1) h v) = -1 then 1 else 0, S2) := t2
        rw [if_neg (show ¬ (9 : Int32) < nI v from nI_nlt (a := 9) (by omega) (by omega)), t1, bd_s, if_neg (show ¬ nI 1 = 0 by decide), gd_t (zib_nI (by omega) (by decide)), zix_nI (by omega), nm_eq, t2', bd_s, zif01]
        by_cases c : unlF E C h z 0 (tU T (3 + 1) h v) = -1
        · rw [if_pos c, if_pos c, nm_eq, nm_eq, nI_1]
          exact go _
        · rw [if_neg c, if_neg c, nm_eq, nI_1]
          exact go _
theorem m_kinds {E : zEv} {K j z h t : Nat} {C : Nat → Int32} {T : zT} {c : Int32 → Int32 → Int32 → Int32 → zMem → Option (Int32 × zMem)} (hb : tBd 999 T) (hj : j < 4) (hz : z ≤ 20) (hh : h < T 9 0) (ht : t ≤ 1) : ∀ (n v u : Nat) (x : Int32) (s : zMem), mOk E K 999 s (tU T (3 + t) h u) → v ≤ kinL t → kinL t - v < n → s 61 j = nI z → (∀ i, i < z → s 62 (40 * j + i) = C i) → ∃ S w, f_X7_kinds_50 c n (nI j) (nI h) (nI t) (nI (T 3 h)) (nI (T 4 h)) x (nI v) s = c (nI h) (nI (T 3 h)) (nI (T 4 h)) (bitF (fun v => unlF E C h z 0 (tU T (3 + t) h v)) (kinL t - v) v x) S ∧ rM S (tU T (3 + t) h w) := by
  intro n
  induction n with
  | zero => intro v u x s _ _ hn; omega
  | succ n ih =>
    intro v u x s o hv hn h61 hC
    have h6 := hb.1
    have hkl : kinL t ≤ 10 := by unfold kinL; split <;> omega
    rw [f_X7_kinds_50]
    by_cases q : kinL t ≤ v
    · have ev : v = kinL t := by omega
      rw [show kinL t - v = 0 by omega]
      rcases (by omega : t = 0 ∨ t = 1) with rfl | rfl
      · rw [if_pos (show nI 0 = 0 from rfl)]
        unfold f_X7_kinds_63
        rw [if_pos (show (6 : Int32) ≤ nI v from nI_le (a := 6) (by rw [ev]; decide) (by omega))]
        exact ⟨s, u, rfl, o.1⟩
      · rw [if_neg (show ¬ nI 1 = 0 by decide)]
        unfold f_X7_kinds_63
        rw [if_pos (show (10 : Int32) ≤ nI v from nI_le (a := 10) (by rw [ev]; decide) (by omega))]
        exact ⟨s, u, rfl, o.1⟩
    · have bd := kin_bd (h := h) (v := v) hb ht (by omega)
      have e9 : tU T (3 + t) h v 9 0 = T 9 0 := tU_off (by omega)
      -- what stands once both rows are written
      have after : ∀ S1 : zMem, rM S1 (tU T (3 + t) h v) → (∀ a k, a ≠ 48 → a ≠ 49 → S1 a k = s a k) → ∃ S2, f_X7_unlike (nI j) (nI h) S1 = some (unlF E C h z 0 (tU T (3 + t) h v), S2) ∧ (∀ y : Int32, ∃ S w, f_X7_kinds_50 c n (nI j) (nI h) (nI t) (nI (T 3 h)) (nI (T 4 h)) y (nI (v + 1)) S2 = c (nI h) (nI (T 3 h)) (nI (T 4 h)) (bitF (fun v => unlF E C h z 0 (tU T (3 + t) h v)) (kinL t - (v + 1)) (v + 1) y) S ∧ rM S (tU T (3 + t) h w)) := by
        intro S1 r1 f1
        have o1 : mOk E K 999 S1 (tU T (3 + t) h v) := o.fr r1 bd (by rw [tU_off (by omega), tU_off (by omega)]) (fun q k hq => f1 q k (by omega) (by omega))
        obtain ⟨S2, t2, g⟩ := m_unl (C := C) (h := h) o1 hj hz (by rw [e9]; exact hh) (by rw [f1 _ _ (by omega) (by omega), h61]) (fun q hq => by rw [f1 _ _ (by omega) (by omega), hC q hq])
        refine ⟨S2, t2, fun y => ih (v + 1) v y S2 (m_now o1 g) (by omega) (by omega) (by rw [g _ _ (by unfold cM; omega), f1 _ _ (by omega) (by omega), h61]) (fun q hq => by rw [g _ _ (by unfold cM; omega), f1 _ _ (by omega) (by omega), hC q hq])⟩
      have step : ∀ (cc : Int32 → Int32 → Int32 → Int32 → Int32 → Int32 → Int32 → zMem → Option (Int32 × zMem)) (S1 : zMem) (w : Int32), (∀ y S, cc (nI j) (nI h) (nI t) (nI (T 3 h)) (nI (T 4 h)) y (nI (v + 1)) S = f_X7_kinds_50 c n (nI j) (nI h) (nI t) (nI (T 3 h)) (nI (T 4 h)) y (nI (v + 1)) S) → rM (zUp S1 49 h w) (tU T (3 + t) h v) → (∀ a k, a ≠ 48 → a ≠ 49 → S1 a k = s a k) → ∃ S w2, f_X7_kinds_100 cc (nI j) (nI h) (nI t) (nI (T 3 h)) (nI (T 4 h)) x (nI v) w (nI h) S1 = c (nI h) (nI (T 3 h)) (nI (T 4 h)) (bitF (fun v => unlF E C h z 0 (tU T (3 + t) h v)) (kinL t - v) v x) S ∧ rM S (tU T (3 + t) h w2) := by
        intro cc S1 w hcc r1 f1
        obtain ⟨S2, t2, go⟩ := after (zUp S1 49 h w) r1 (fun a k h1 h2 => by rw [zUp_off (by omega), f1 a k h1 h2])
        unfold f_X7_kinds_100
        rw [gd_t (zib_nI (by omega) (by decide)), zix_nI (by omega), nm_eq, t2, bd_s, show kinL t - v = (kinL t - (v + 1)) + 1 by omega]
        unfold bitF
        by_cases cq : unlF E C h z 0 (tU T (3 + t) h v) = -1
        · rw [if_pos cq, if_pos cq, nm_eq, nm_eq, nI_1, hcc]
          exact go _
        · rw [if_neg cq, if_neg cq, nm_eq, nm_eq, nI_1, or_0, hcc]
          exact go _
      rcases (by omega : t = 0 ∨ t = 1) with rfl | rfl
      · rw [if_pos (show nI 0 = 0 from rfl)]
        unfold f_X7_kinds_63
        have hv6 : v < 6 := by unfold kinL at q; simp at q; omega
        rw [if_neg (show ¬ (6 : Int32) ≤ nI v from nI_ge (b := 6) hv6 (by omega)), if_pos (show nI 0 = 0 from rfl)]
        unfold f_X7_kinds_82
        rw [gd_t (zib_nI (by omega) (by decide)), zix_nI (by omega), nm_eq, if_neg (show ¬ nI 0 = 1 by decide)]
        have r1 : rM (zUp s 48 h (nI v)) (tU T (3 + 0) h v) := by
          have := o.1.u3 h v
          rw [tU_tU (j := 3)] at this
          exact this
        refine step _ _ _ (fun _ _ => rfl) ?_ (fun a k h1 h2 => zUp_off (by omega))
        have := r1.u4 h (T 4 h)
        rw [tU_id (show T 4 h = tU T (3 + 0) h v 4 h from (tU_off (by omega)).symm)] at this
        exact this
      · rw [if_neg (show ¬ nI 1 = 0 by decide)]
        unfold f_X7_kinds_63
        have hv10 : v < 10 := by unfold kinL at q; simp at q; omega
        rw [if_neg (show ¬ (10 : Int32) ≤ nI v from nI_ge (b := 10) hv10 (by omega)), if_neg (show ¬ nI 1 = 0 by decide)]
        unfold f_X7_kinds_82
        rw [gd_t (zib_nI (by omega) (by decide)), zix_nI (by omega), nm_eq, if_pos (show nI 1 = 1 from rfl)]
        have r1 : rM (zUp s 48 h (nI (T 3 h))) (tU T (3 + 1) h u) := by
          have := o.1.u3 h (T 3 h)
          rw [tU_id (show T 3 h = tU T (3 + 1) h u 3 h from (tU_off (by omega)).symm)] at this
          exact this
        refine step _ _ _ (fun _ _ => rfl) ?_ (fun a k h1 h2 => zUp_off (by omega))
        have := r1.u4 h v
        rw [tU_tU (j := 4)] at this
        exact this
theorem step_kinds (p h w : Int32) : stepOk (f_X6_kinds p h w) (f_X7_kinds p h w) := by
  refine step_c (fun a k v s hk e => fr_X6_kinds a k (by omega) e) (fun a k v s hk e => fr_X7_kinds a k (by omega) e) ?_
  intro T U P K F z B Z s hx hc
  have h6 := hx.1.1
  have same : ∀ v, f_X6_kinds p h w s = some (v, s) → (∀ S, zRM T U P K F z B Z S → f_X7_kinds p h w S = some (v, S)) → ∃ T' U' P' K' F' z' B' Z' v S, f_X6_kinds p h w s = some (v, S) ∧ zRX T' U' P' K' F' Z' ∧ zRC T' U' P' K' F' z' B' Z' S ∧ ∀ S, zRM T U P K F z B Z S → ∃ S', f_X7_kinds p h w S = some (v, S') ∧ zRM T' U' P' K' F' z' B' Z' S' := fun v q1 q2 => ⟨T, U, P, K, F, z, B, Z, v, s, q1, hx, hc, fun S hm => ⟨S, q2 S hm, hm⟩⟩
  by_cases c : tellH Z p h (T 9 0) = 0
  case neg => exact same (tellH Z p h (T 9 0)) (by unfold f_X6_kinds; rw [k_tellH hc, bd_s, if_neg c]) (fun S hm => by unfold f_X7_kinds; rw [m_tellH hx hm, bd_s, if_neg c])
  by_cases cw : 0 ≤ w ∧ w ≤ 1
  case neg => exact same (-7) (by unfold f_X6_kinds; rw [k_tellH hc, bd_s, if_pos c, k_isFromTo, bd_s, zif01, if_neg cw]) (fun S hm => by unfold f_X7_kinds; rw [m_tellH hx hm, bd_s, if_pos c, k_in, bd_s, zif01, if_neg cw])
  obtain ⟨j, n, i, hj, hn, rfl, e1, hi, rfl⟩ := tellH_0 hx.2.2.2.2.2 h6 c
  obtain ⟨t, ht, rfl⟩ := (pk_in2 w 1 (by omega)).resolve_left (fun r => r cw)
  obtain ⟨S1, d1⟩ := k_kinds (C := shC Z j) (t := t) hj hn hi ht zN 0 0 s (hc.kOk hx) (by omega) (by unfold kinL zN; split <;> omega) (by rw [(hc.2.2.2.2.2.2.1 j hj).2, e1]) (fun q hq => by rw [hc.2.2.2.2.2.2.2 _ (by omega)])
  have e2 : f_X6_kinds (nI j) (nI i) (nI t) s = some (bitF (fun v => unlF (evP P) (shC Z j) i n 0 (tU T (3 + t) i v)) (kinL t - 0) 0 0, S1) := by
    unfold f_X6_kinds
    rw [k_tellH hc, bd_s, if_pos c, k_isFromTo, bd_s, zif01, if_pos cw]
    exact d1
  refine ⟨T, U, P, K, F, z, B, Z, _, S1, e2, hx, hc.of (fun a k hk => fr_X6_kinds a k (by unfold cC at hk; omega) rfl _ S1 e2), fun S hm => ?_⟩
  have mk := hm.mOk hx
  have hh := hm.1.ch hi
  have o0 : mOk (evP P) K 999 S (tU T (3 + t) i (T (3 + t) i)) := by rw [tU_id rfl]; exact mk
  obtain ⟨S2, w2, d2, r2⟩ := m_kinds (C := shC Z j) (c := fun x111 x112 x113 x114 s115 => gd (zib x111 6) <| nm (zUp s115 48 (zix x111) x112) fun s116 => gd (zib x111 6) <| nm (zUp s116 49 (zix x111) x113) fun s117 => some (x114, s117)) (t := t) hx.1 hj hn hi ht zN 0 _ 0 S o0 (by omega) (by unfold kinL zN; split <;> omega) (by rw [(hm.2.2.2.2.2.2.1 j hj).2, e1]) (fun q hq => by rw [hm.2.2.2.2.2.2.2.1 _ (by omega)])
  have e3 : f_X7_kinds (nI j) (nI i) (nI t) S = some (bitF (fun v => unlF (evP P) (shC Z j) i n 0 (tU T (3 + t) i v)) (kinL t - 0) 0 0, zUp (zUp S2 48 i (nI (T 3 i))) 49 i (nI (T 4 i))) := by
    unfold f_X7_kinds
    rw [m_tellH hx hm, bd_s, if_pos c, k_in, bd_s, zif01, if_pos cw, gd_t (zib_nI (by omega) (by decide)), zix_nI (by omega), hh.2.2.2.1, nm_eq, gd_t (zib_nI (by omega) (by decide)), hh.2.2.2.2, nm_eq]
    refine d2.trans ?_
    rw [gd_t (zib_nI (by omega) (by decide)), zix_nI (by omega), nm_eq, gd_t (zib_nI (by omega) (by decide)), nm_eq]
  refine ⟨_, e3, hm.upT ?_ (fun a k hk h1 h2 => fr_X7_kinds a k (by unfold cM at hk; omega) rfl _ _ e3)⟩
  have r3 := (r2.u3 i (T 3 i)).u4 i (T 4 i)
  rcases (by omega : t = 0 ∨ t = 1) with rfl | rfl
  · rw [tU_tU (j := 3), tU_id (T := T) (j := 3) rfl, tU_id (T := T) (j := 4) rfl] at r3
    exact r3
  · rw [tU_id (T := tU T (3 + 1) i w2) (j := 3) (show T 3 i = tU T (3 + 1) i w2 3 i from (tU_off (by omega)).symm), tU_tU (j := 4), tU_id (T := T) (j := 4) rfl] at r3
    exact r3
-- laws
theorem kOk.law {E : zEv} {K M w : Nat} {s : zMem} {T : zT} (o : kOk E K M w s T) {t : Nat} (ht : t < K) (h6 : t < 6) : kOk E K M w (zUp s w 12 (nI t)) (tU T 9 3 t) := ⟨o.1, o.2.1.law t, o.2.2.1.law h6, by rw [tU_hit]; exact ht, o.2.2.2.2.of (fun q k hq => by have := o.1; exact zUp_off (by omega))⟩
theorem mOk.law {E : zEv} {K M : Nat} {s : zMem} {T : zT} (o : mOk E K M s T) {t : Nat} (ht : t < K) (h6 : t < 6) : mOk E K M (zUp s 47 15 (nI t)) (tU T 9 3 t) := ⟨o.1.law t, o.2.1.law h6, by rw [tU_hit]; exact ht, o.2.2.2.of (fun q k hq => zUp_off (by omega))⟩
theorem k_laws {E : zEv} {K j z h : Nat} {C : Nat → Int32} {T : zT} (hK : K ≤ 6) (hj : j < 4) (hz : z ≤ 20) (hh : h < T 9 0) : ∀ (n v : Nat) (x : Int32) (s : zMem), kOk E K 999 9 s T → v ≤ K → K - v < n → s 1 3 = nI K → s 44 j = nI z → (∀ i, i < z → s 45 (40 * j + i) = C i) → ∃ S, f_X6_laws_19 n (nI j) (nI h) x (nI v) s = some (bitF (fun v => unlF E C h z 0 (tU T 9 3 v)) (K - v) v x, S) := by
  intro n
  induction n with
  | zero => intro v x s _ _ hn; omega
  | succ n ih =>
    intro v x s o hv hn h13 h44 hC
    have h6 := o.2.2.1.1
    rw [f_X6_laws_19, h13]
    by_cases q : K ≤ v
    · rw [if_pos (nI_le q (by omega)), show K - v = 0 by omega]
      exact ⟨s, rfl⟩
    · obtain ⟨S1, t1, o1⟩ := k_think o
      have f1 : ∀ a k, (a < 19 ∧ a ≠ 4) ∨ a = 44 ∨ a = 45 → S1 a k = s a k := fun a k hk => fr_X6_think a k (by omega) rfl _ S1 t1
      have o2 := o1.law (t := v) (by omega) (by omega)
      have g1 : ∀ a k, (a < 19 ∧ a ≠ 4) ∨ a = 44 ∨ a = 45 → zUp S1 20 12 (nI v) a k = s a k := fun a k hk => by rw [zUp_off (by omega), f1 a k hk]
      have e9 : tU T 9 3 v 9 0 = T 9 0 := tU_off (by omega)
      obtain ⟨S2, t2, q1, q2, q3⟩ := k_isT (C := C) (h := h) o2 hj hz (by rw [e9]; exact hh) (by rw [g1 _ _ (by omega), h44]) (fun q hq => by rw [g1 _ _ (by omega), hC q hq])
      have now : kOk E K 999 9 S2 T := k_now o (fun a k h1 h2 => by rw [q1 a k h1 h2, g1 a k (by omega)])
      have go : ∀ y : Int32, ∃ S, f_X6_laws_19 n (nI j) (nI h) y (nI (v + 1)) S2 = some (bitF (fun v => unlF E C h z 0 (tU T 9 3 v)) (K - (v + 1)) (v + 1) y, S) := fun y => ih (v + 1) y S2 now (by omega) (by omega) (by rw [q1 _ _ (by omega) (by omega), g1 _ _ (by omega), h13]) (by rw [q2, g1 _ _ (by omega), h44]) (fun q hq => by rw [q3, g1 _ _ (by omega), hC q hq])
      rw [if_neg (nI_ge (by omega) (by omega)), t1, bd_s, nm_eq, t2, bd_s, zif01, show K - v = (K - (v + 1)) + 1 by omega]
      unfold bitF
      by_cases c : unlF E C h z 0 (tU T 9 3 v) = -1
      · rw [if_pos c, if_pos c, nm_eq, nm_eq, nI_1]
        exact go _
      · rw [if_neg c, if_neg c, nm_eq, nI_1]
        exact go _
theorem m_laws {E : zEv} {K j z h : Nat} {C : Nat → Int32} {T : zT} {c : Int32 → Int32 → zMem → Option (Int32 × zMem)} {g : Int32} (hK : K ≤ 6) (hj : j < 4) (hz : z ≤ 20) (hh : h < T 9 0) : ∀ (n v u : Nat) (x : Int32) (s : zMem), mOk E K 999 s (tU T 9 3 u) → v ≤ K → K - v < n → s 47 14 = nI K → s 61 j = nI z → (∀ i, i < z → s 62 (40 * j + i) = C i) → ∃ S w, f_X7_laws_25 c n (nI j) (nI h) g x (nI v) s = c g (bitF (fun v => unlF E C h z 0 (tU T 9 3 v)) (K - v) v x) S ∧ rM S (tU T 9 3 w) := by
  intro n
  induction n with
  | zero => intro v u x s _ _ hn; omega
  | succ n ih =>
    intro v u x s o hv hn h14 h61 hC
    rw [f_X7_laws_25, h14]
    by_cases q : K ≤ v
    · rw [if_pos (nI_le q (by omega)), show K - v = 0 by omega]
      exact ⟨s, u, rfl, o.1⟩
    · have o2 := o.law (t := v) (by omega) (by omega)
      rw [tU_tU] at o2
      have e9 : tU T 9 3 v 9 0 = T 9 0 := tU_off (by omega)
      obtain ⟨S2, t2, f2⟩ := m_unl (C := C) (h := h) o2 hj hz (by rw [e9]; exact hh) (by rw [zUp_off (by omega), h61]) (fun q hq => by rw [zUp_off (by omega), hC q hq])
      have go : ∀ y : Int32, ∃ S w, f_X7_laws_25 c n (nI j) (nI h) g y (nI (v + 1)) S2 = c g (bitF (fun v => unlF E C h z 0 (tU T 9 3 v)) (K - (v + 1)) (v + 1) y) S ∧ rM S (tU T 9 3 w) := fun y => ih (v + 1) v y S2 (m_now o2 f2) (by omega) (by omega) (by rw [f2 _ _ (by unfold cM; omega), zUp_off (by omega), h14]) (by rw [f2 _ _ (by unfold cM; omega), zUp_off (by omega), h61]) (fun q hq => by rw [f2 _ _ (by unfold cM; omega), zUp_off (by omega), hC q hq])
      rw [if_neg (nI_ge (by omega) (by omega)), nm_eq, t2, bd_s, show K - v = (K - (v + 1)) + 1 by omega]
      unfold bitF
      by_cases cq : unlF E C h z 0 (tU T 9 3 v) = -1
      · rw [if_pos cq, if_pos cq, nm_eq, nm_eq, nI_1]
        exact go _
      · rw [if_neg cq, if_neg cq, nm_eq, nm_eq, nI_1, or_0]
        exact go _
theorem step_laws (p h : Int32) : stepOk (f_X6_laws p h) (f_X7_laws p h) := by
  refine step_c (fun a k v s hk e => fr_X6_laws a k (by omega) e) (fun a k v s hk e => fr_X7_laws a k (by omega) e) ?_
  intro T U P K F z B Z s hx hc
  have h6 := hx.1.1
  have hK := hx.2.2.1.1
  by_cases c : tellH Z p h (T 9 0) = 0
  case neg => exact ⟨T, U, P, K, F, z, B, Z, tellH Z p h (T 9 0), s, by unfold f_X6_laws; rw [k_tellH hc, bd_s, if_neg c], hx, hc, fun S hm => ⟨S, by unfold f_X7_laws; rw [m_tellH hx hm, bd_s, if_neg c], hm⟩⟩
  obtain ⟨j, n, i, hj, hn, rfl, e1, hi, rfl⟩ := tellH_0 hx.2.2.2.2.2 h6 c
  obtain ⟨S1, d1⟩ := k_laws (C := shC Z j) hK hj hn hi zN 0 0 s (hc.kOk hx) (by omega) (by unfold zN; omega) hc.2.2.1 (by rw [(hc.2.2.2.2.2.2.1 j hj).2, e1]) (fun q hq => by rw [hc.2.2.2.2.2.2.2 _ (by omega)])
  have e2 : f_X6_laws (nI j) (nI i) s = some (bitF (fun v => unlF (evP P) (shC Z j) i n 0 (tU T 9 3 v)) (K - 0) 0 0, S1) := by
    unfold f_X6_laws
    rw [k_tellH hc, bd_s, if_pos c]
    exact d1
  refine ⟨T, U, P, K, F, z, B, Z, _, S1, e2, hx, hc.of (fun a k hk => fr_X6_laws a k (by unfold cC at hk; omega) rfl _ S1 e2), fun S hm => ?_⟩
  have mk := hm.mOk hx
  have o0 : mOk (evP P) K 999 S (tU T 9 3 (T 9 3)) := by rw [tU_id rfl]; exact mk
  obtain ⟨S2, w2, d2, r2⟩ := m_laws (C := shC Z j) (c := fun x17 x18 s19 => nm (zUp s19 47 15 x17) fun s20 => some (x18, s20)) (g := nI (T 9 3)) hK hj hn hi zN 0 _ 0 S o0 (by omega) (by unfold zN; omega) hm.2.2.1 (by rw [(hm.2.2.2.2.2.2.1 j hj).2, e1]) (fun q hq => by rw [hm.2.2.2.2.2.2.2.1 _ (by omega)])
  have e3 : f_X7_laws (nI j) (nI i) S = some (bitF (fun v => unlF (evP P) (shC Z j) i n 0 (tU T 9 3 v)) (K - 0) 0 0, zUp S2 47 15 (nI (T 9 3))) := by
    unfold f_X7_laws
    rw [m_tellH hx hm, bd_s, if_pos c, hm.1.c0.2.2.2, nm_eq]
    exact d2
  refine ⟨_, e3, hm.upT ?_ (fun a k hk h1 h2 => fr_X7_laws a k (by unfold cM at hk; omega) rfl _ _ e3)⟩
  have r3 := r2.law (T 9 3)
  rw [tU_tU, tU_id (T := T) rfl] at r3
  exact r3
-- states
def staF (f : Nat → Int32) : Nat → Nat → Nat → Int32 → Nat × Int32
  | 0, _, m, l => (m, l)
  | r + 1, v, m, l => if f v = -1 then staF f r (v + 1) (m + 1) (if l = -1 then nI v else l) else staF f r (v + 1) m l
def staL (t : Nat) : Nat := if t = 0 then 300 else 100
theorem staL_le (t : Nat) : 100 ≤ staL t ∧ staL t ≤ 300 := by unfold staL; split <;> omega
theorem sta_bd {M t h v : Nat} {T : zT} (hb : tBd M T) (ht : t ≤ 2) (hv : v < staL t) : tBd M (tU T t h v) := by
  unfold staL at hv
  refine hb.up (by omega) ?_
  split at hv <;> omega
theorem k_states {E : zEv} {K j z h t : Nat} {C : Nat → Int32} {T : zT} {c : Int32 → Int32 → Int32 → zMem → Option (Int32 × zMem)} {g : Int32} (hj : j < 4) (hz : z ≤ 20) (hh : h < T 9 0) (ht : t ≤ 2) : ∀ (n v m : Nat) (l : Int32) (s : zMem), kOk E K 999 9 s T → v ≤ staL t → staL t - v < n → s 44 j = nI z → (∀ i, i < z → s 45 (40 * j + i) = C i) → ∃ S, f_X6_states_47 c n (nI j) (nI h) (nI t) g (nI m) l (nI v) s = c g (nI (staF (fun v => unlF E C h z 0 (tU T t h v)) (staL t - v) v m l).1) (staF (fun v => unlF E C h z 0 (tU T t h v)) (staL t - v) v m l).2 S := by
  intro n
  induction n with
  | zero => intro v m l s _ _ hn; omega
  | succ n ih =>
    intro v m l s o hv hn h44 hC
    have h6 := o.2.2.1.1
    have hL := staL_le t
    have body : ∀ (c1 : Int32 → Int32 → Int32 → zMem → Option (Int32 × zMem)) (c2 : Int32 → Int32 → Int32 → Int32 → Int32 → Int32 → Int32 → zMem → Option (Int32 × zMem)), (∀ a b d S, c1 a b d S = c a b d S) → (∀ a b d S, c2 (nI j) (nI h) (nI t) g a b d S = f_X6_states_47 c n (nI j) (nI h) (nI t) g a b d S) → ∃ S, f_X6_states_63 c1 c2 (nI j) (nI h) (nI t) g (nI m) l (nI v) (nI (staL t - 1)) (nI v) s = c g (nI (staF (fun v => unlF E C h z 0 (tU T t h v)) (staL t - v) v m l).1) (staF (fun v => unlF E C h z 0 (tU T t h v)) (staL t - v) v m l).2 S := by
      intro c1 c2 h1 h2
      unfold f_X6_states_63
      by_cases q : staL t ≤ v
      · rw [if_pos (nI_lt (by omega) (by omega)), show staL t - v = 0 by omega, h1]
        exact ⟨s, rfl⟩
      · obtain ⟨S1, t1, o1⟩ := k_think o
        have f1 : ∀ a k, (a < 19 ∧ a ≠ 4) ∨ a = 44 ∨ a = 45 → S1 a k = s a k := fun a k hk => fr_X6_think a k (by omega) rfl _ S1 t1
        obtain ⟨d1, r1⟩ := k_become (v := v) o1.2.1 o1.2.2.1.1 (show t < 3 by omega) hh
        have o2 : kOk E K 999 20 (zUp S1 (20 + (t + 1)) h (nI v)) (tU T t h v) := o1.fr r1 (sta_bd o.2.2.1 ht (by omega)) (tU_off (by omega)) (fun q k hq => zUp_off (by omega))
        have g1 : ∀ a k, (a < 19 ∧ a ≠ 4) ∨ a = 44 ∨ a = 45 → zUp S1 (20 + (t + 1)) h (nI v) a k = s a k := fun a k hk => by rw [zUp_off (by omega), f1 a k hk]
        have e9 : tU T t h v 9 0 = T 9 0 := tU_off (by omega)
        obtain ⟨S2, t2, q1, q2, q3⟩ := k_isT (C := C) (h := h) o2 hj hz (by rw [e9]; exact hh) (by rw [g1 _ _ (by omega), h44]) (fun q hq => by rw [g1 _ _ (by omega), hC q hq])
        have now : kOk E K 999 9 S2 T := k_now o (fun a k h1 h2 => by rw [q1 a k h1 h2, g1 a k (by omega)])
        have go : ∀ (m2 : Nat) (l2 : Int32), ∃ S, f_X6_states_47 c n (nI j) (nI h) (nI t) g (nI m2) l2 (nI (v + 1)) S2 = c g (nI (staF (fun v => unlF E C h z 0 (tU T t h v)) (staL t - (v + 1)) (v + 1) m2 l2).1) (staF (fun v => unlF E C h z 0 (tU T t h v)) (staL t - (v + 1)) (v + 1) m2 l2).2 S := fun m2 l2 => ih (v + 1) m2 l2 S2 now (by omega) (by omega) (by rw [q2, g1 _ _ (by omega), h44]) (fun q hq => by rw [q3, g1 _ _ (by omega), hC q hq])
        rw [if_neg (nI_nlt (by omega) (by omega)), t1, bd_s, d1, bd_s, t2, bd_s, zif01, show staL t - v = (staL t - (v + 1)) + 1 by omega]
        unfold staF
        by_cases cq : unlF E C h z 0 (tU T t h v) = -1
        · rw [if_pos cq, if_pos cq, nm_eq, nI_1]
          by_cases cl : l = -1
          · rw [if_pos cl, if_pos cl, nm_eq, nI_1, h2]
            exact go _ _
          · rw [if_neg cl, if_neg cl, nm_eq, nI_1, h2]
            exact go _ _
        · rw [if_neg cq, if_neg cq, nm_eq, nI_1, h2]
          exact go _ _
    rw [f_X6_states_47]
    by_cases t0 : t = 0
    · subst t0
      rw [if_pos (show nI 0 = 0 from rfl)]
      exact body _ _ (fun _ _ _ _ => rfl) (fun _ _ _ _ => rfl)
    · rw [if_neg (show ¬ nI t = 0 from nI_ne0 (by omega) (by omega)), k_most (by omega), bd_s]
      have em : mostN t = staL t - 1 := by unfold mostN staL; rw [if_neg t0, if_neg t0]
      rw [em]
      exact body _ _ (fun _ _ _ _ => rfl) (fun _ _ _ _ => rfl)
theorem m_states {E : zEv} {K j z h t : Nat} {C : Nat → Int32} {T : zT} {c : Int32 → Int32 → Int32 → Int32 → Int32 → Int32 → zMem → Option (Int32 × zMem)} {g w0 : Int32} (hb : tBd 999 T) (hj : j < 4) (hz : z ≤ 20) (hh : h < T 9 0) (ht : t ≤ 2) : ∀ (n v u m : Nat) (l : Int32) (s : zMem), mOk E K 999 s (tU T t h u) → v ≤ staL t → staL t - v < n → s 61 j = nI z → (∀ i, i < z → s 62 (40 * j + i) = C i) → ∃ S w, f_X7_states_59 c n (nI j) (nI h) (nI t) g w0 (nI m) l (nI v) s = c (nI h) (nI t) g w0 (nI (staF (fun v => unlF E C h z 0 (tU T t h v)) (staL t - v) v m l).1) (staF (fun v => unlF E C h z 0 (tU T t h v)) (staL t - v) v m l).2 S ∧ rM S (tU T t h w) := by
  intro n
  induction n with
  | zero => intro v u m l s _ _ hn; omega
  | succ n ih =>
    intro v u m l s o hv hn h61 hC
    have h6 := hb.1
    have hL := staL_le t
    have body : ∀ (c1 : Int32 → Int32 → Int32 → Int32 → Int32 → Int32 → zMem → Option (Int32 × zMem)) (c2 : Int32 → Int32 → Int32 → Int32 → Int32 → Int32 → Int32 → Int32 → zMem → Option (Int32 × zMem)), (∀ a b d e f i S, c1 a b d e f i S = c a b d e f i S) → (∀ a b d S, c2 (nI j) (nI h) (nI t) g w0 a b d S = f_X7_states_59 c n (nI j) (nI h) (nI t) g w0 a b d S) → ∃ S w, f_X7_states_73 c1 c2 (nI j) (nI h) (nI t) g w0 (nI m) l (nI v) (nI (staL t - 1)) (nI v) s = c (nI h) (nI t) g w0 (nI (staF (fun v => unlF E C h z 0 (tU T t h v)) (staL t - v) v m l).1) (staF (fun v => unlF E C h z 0 (tU T t h v)) (staL t - v) v m l).2 S ∧ rM S (tU T t h w) := by
      intro c1 c2 h1 h2
      unfold f_X7_states_73
      by_cases q : staL t ≤ v
      · rw [if_pos (nI_lt (by omega) (by omega)), show staL t - v = 0 by omega, h1]
        exact ⟨s, u, rfl, o.1⟩
      · have r1 := o.1.uj (show t < 3 by omega) h v
        rw [tU_tU] at r1
        have o2 : mOk E K 999 (zUp s 50 (3 * h + t) (nI v)) (tU T t h v) := o.fr r1 (sta_bd hb ht (by omega)) (by rw [tU_off (by omega), tU_off (by omega)]) (fun q k hq => zUp_off (by omega))
        have e9 : tU T t h v 9 0 = T 9 0 := tU_off (by omega)
        obtain ⟨S2, t2, f2⟩ := m_unl (C := C) (h := h) o2 hj hz (by rw [e9]; exact hh) (by rw [zUp_off (by omega), h61]) (fun q hq => by rw [zUp_off (by omega), hC q hq])
        have go : ∀ (m2 : Nat) (l2 : Int32), ∃ S w, f_X7_states_59 c n (nI j) (nI h) (nI t) g w0 (nI m2) l2 (nI (v + 1)) S2 = c (nI h) (nI t) g w0 (nI (staF (fun v => unlF E C h z 0 (tU T t h v)) (staL t - (v + 1)) (v + 1) m2 l2).1) (staF (fun v => unlF E C h z 0 (tU T t h v)) (staL t - (v + 1)) (v + 1) m2 l2).2 S ∧ rM S (tU T t h w) := fun m2 l2 => ih (v + 1) v m2 l2 S2 (m_now o2 f2) (by omega) (by omega) (by rw [f2 _ _ (by unfold cM; omega), zUp_off (by omega), h61]) (fun q hq => by rw [f2 _ _ (by unfold cM; omega), zUp_off (by omega), hC q hq])
        rw [if_neg (nI_nlt (by omega) (by omega)), n3mj, gd_t (zib_nI (by omega) (by decide)), zix_nI (by omega), nm_eq, t2, bd_s, show staL t - v = (staL t - (v + 1)) + 1 by omega]
        unfold staF f_X7_states_103
        by_cases cq : unlF E C h z 0 (tU T t h v) = -1
        · rw [if_pos cq, if_pos cq, if_neg (by decide), nm_eq, nI_1, if_neg (by decide)]
          by_cases cl : l = -1
          · rw [if_pos cl, if_pos cl, nm_eq, nI_1]
            dsimp only
            rw [h2]
            exact go _ _
          · rw [if_neg cl, if_neg cl, nm_eq, nI_1]
            dsimp only
            rw [h2]
            exact go _ _
        · rw [if_neg cq, if_neg cq, if_pos rfl, nm_eq, if_pos rfl, nm_eq, nI_1, show nI m + 0 = nI m from nI_add m 0]
          dsimp only
          rw [h2]
          exact go _ _
    rw [f_X7_states_59]
    by_cases t0 : t = 0
    · subst t0
      rw [if_pos (show nI 0 = 0 from rfl)]
      exact body _ _ (fun _ _ _ _ _ _ _ => rfl) (fun _ _ _ _ => rfl)
    · rw [if_neg (show ¬ nI t = 0 from nI_ne0 (by omega) (by omega))]
      have em : (99 : Int32) = nI (staL t - 1) := by unfold staL; rw [if_neg t0]; rfl
      rw [em]
      exact body _ _ (fun _ _ _ _ _ _ _ => rfl) (fun _ _ _ _ => rfl)
theorem step_states (p h w y : Int32) : stepOk (f_X6_states p h w y) (f_X7_states p h w y) := by
  refine step_c (fun a k v s hk e => fr_X6_states a k (by omega) e) (fun a k v s hk e => fr_X7_states a k (by omega) e) ?_
  intro T U P K F z B Z s hx hc
  have h6 := hx.1.1
  have same : ∀ v, f_X6_states p h w y s = some (v, s) → (∀ S, zRM T U P K F z B Z S → f_X7_states p h w y S = some (v, S)) → ∃ T' U' P' K' F' z' B' Z' v S, f_X6_states p h w y s = some (v, S) ∧ zRX T' U' P' K' F' Z' ∧ zRC T' U' P' K' F' z' B' Z' S ∧ ∀ S, zRM T U P K F z B Z S → ∃ S', f_X7_states p h w y S = some (v, S') ∧ zRM T' U' P' K' F' z' B' Z' S' := fun v q1 q2 => ⟨T, U, P, K, F, z, B, Z, v, s, q1, hx, hc, fun S hm => ⟨S, q2 S hm, hm⟩⟩
  by_cases c : tellH Z p h (T 9 0) = 0
  case neg => exact same (tellH Z p h (T 9 0)) (by unfold f_X6_states; rw [k_tellH hc, bd_s, if_neg c]) (fun S hm => by unfold f_X7_states; rw [m_tellH hx hm, bd_s, if_neg c])
  by_cases cw : 0 ≤ w ∧ w ≤ 2
  case neg => exact same (-7) (by unfold f_X6_states; rw [k_tellH hc, bd_s, if_pos c, k_isFromTo, bd_s, zif01, if_neg cw]) (fun S hm => by unfold f_X7_states; rw [m_tellH hx hm, bd_s, if_pos c, k_in, bd_s, zif01, if_neg cw])
  by_cases cy : 0 ≤ y ∧ y ≤ 1
  case neg => exact same (-7) (by unfold f_X6_states; rw [k_tellH hc, bd_s, if_pos c, k_isFromTo, bd_s, zif01, if_pos cw, k_isFromTo, bd_s, zif01, if_neg cy]) (fun S hm => by unfold f_X7_states; rw [m_tellH hx hm, bd_s, if_pos c, k_in, bd_s, zif01, if_pos cw, k_in, bd_s, zif01, if_neg cy])
  obtain ⟨j, n, i, hj, hn, rfl, e1, hi, rfl⟩ := tellH_0 hx.2.2.2.2.2 h6 c
  obtain ⟨t, ht, rfl⟩ := (pk_in2 w 2 (by omega)).resolve_left (fun r => r cw)
  have hL := staL_le t
  obtain ⟨S1, d1⟩ := k_states (C := shC Z j) (c := fun x61 x62 x63 s64 => if x61 = 0 then some (x62, s64) else some (x63, s64)) (g := y) (t := t) hj hn hi ht zN 0 0 (-1) s (hc.kOk hx) (by omega) (by unfold zN; omega) (by rw [(hc.2.2.2.2.2.2.1 j hj).2, e1]) (fun q hq => by rw [hc.2.2.2.2.2.2.2 _ (by omega)])
  have e2 : f_X6_states (nI j) (nI i) (nI t) y s = some (if y = 0 then nI (staF (fun v => unlF (evP P) (shC Z j) i n 0 (tU T t i v)) (staL t - 0) 0 0 (-1)).1 else (staF (fun v => unlF (evP P) (shC Z j) i n 0 (tU T t i v)) (staL t - 0) 0 0 (-1)).2, S1) := by
    unfold f_X6_states
    rw [k_tellH hc, bd_s, if_pos c, k_isFromTo, bd_s, zif01, if_pos cw, k_isFromTo, bd_s, zif01, if_pos cy]
    exact d1.trans ite_out
  refine ⟨T, U, P, K, F, z, B, Z, _, S1, e2, hx, hc.of (fun a k hk => fr_X6_states a k (by unfold cC at hk; omega) rfl _ S1 e2), fun S hm => ?_⟩
  have mk := hm.mOk hx
  have o0 : mOk (evP P) K 999 S (tU T t i (T t i)) := by rw [tU_id rfl]; exact mk
  obtain ⟨S2, w2, d2, r2⟩ := m_states (C := shC Z j) (c := fun x99 x100 x101 x102 x103 x104 s105 => gd (zib ((3 * x99) + x100) 18) <| nm (zUp s105 50 (zix ((3 * x99) + x100)) x102) fun s106 => if x101 = 0 then some (x103, s106) else some (x104, s106)) (g := y) (w0 := nI (T t i)) (t := t) hx.1 hj hn hi ht zN 0 _ 0 (-1) S o0 (by omega) (by unfold zN; omega) (by rw [(hm.2.2.2.2.2.2.1 j hj).2, e1]) (fun q hq => by rw [hm.2.2.2.2.2.2.2.1 _ (by omega)])
  have e3 : f_X7_states (nI j) (nI i) (nI t) y S = some (if y = 0 then nI (staF (fun v => unlF (evP P) (shC Z j) i n 0 (tU T t i v)) (staL t - 0) 0 0 (-1)).1 else (staF (fun v => unlF (evP P) (shC Z j) i n 0 (tU T t i v)) (staL t - 0) 0 0 (-1)).2, zUp S2 50 (3 * i + t) (nI (T t i))) := by
    unfold f_X7_states
    rw [m_tellH hx hm, bd_s, if_pos c, k_in, bd_s, zif01, if_pos cw, k_in, bd_s, zif01, if_pos cy, n3mj, gd_t (zib_nI (by omega) (by decide)), zix_nI (by omega), hm.1.cj (by omega) hi, nm_eq]
    refine d2.trans ?_
    rw [n3mj, gd_t (zib_nI (by omega) (by decide)), zix_nI (by omega), nm_eq]
    exact ite_out
  refine ⟨_, e3, hm.upT ?_ (fun a k hk h1 h2 => fr_X7_states a k (by unfold cM at hk; omega) rfl _ _ e3)⟩
  have r3 := r2.uj (show t < 3 by omega) i (T t i)
  rw [tU_tU, tU_id (T := T) rfl] at r3
  exact r3

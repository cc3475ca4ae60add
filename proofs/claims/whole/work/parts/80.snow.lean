-- snow by lots
def lotN (l : Nat) : Nat := l * 48271 % 2147483647
def snowF (E : zEv) (c : Nat) : Nat → Nat → Nat → zT → Nat × zT
  | 0, _, f, T => (f, T)
  | r + 1, l, f, T => snowF E c r (lotN l) (f ||| (nightT E (tU T 0 (lotN l % T 9 0) (T 0 (lotN l % T 9 0) - c))).1) (nightT E (tU T 0 (lotN l % T 9 0) (T 0 (lotN l % T 9 0) - c))).2
def snowV (E : zEv) (seed c : Nat) (T : zT) : Nat × zT := if T 9 0 = 0 then (0, T) else snowF E c 5 (seed + 1) 0 T
theorem lot_lt (l : Nat) : lotN l < 2147483647 := Nat.mod_lt _ (by omega)
theorem lot_e {l : Nat} (h : l < 2 ^ 31) : zremL (lN l * 48271) 2147483647 = lN (lotN l) := by
  rw [show (48271 : Int64) = lN 48271 from rfl, show (2147483647 : Int64) = lN 2147483647 from rfl, lN_mul]
  exact pk_lRem (by omega) (by omega) (by omega)
theorem hut_e {l H : Nat} (h : l < 2 ^ 31) (hH : 0 < H) (h6 : H ≤ 6) : (zremL (lN l) (lN H)).toInt32 = nI (l % H) := by
  have : zremL (lN l) (lN H) = lN (l % H) := pk_lRem (by omega) hH (by omega)
  rw [this, lN_i]
theorem lN_ne {H : Nat} (hH : 0 < H) (h6 : H ≤ 6) : decide (¬ lN H = 0) = true := by
  rw [decide_eq_true_eq]
  intro r
  have := (lN_eq (a := H) (b := 0) (by omega) (by omega)).mp r
  omega
theorem k_snowL {E : zEv} {K w c : Nat} (hc : c ≤ 999) : ∀ (n i l f M : Nat) (s : zMem) (T : zT), kOk E K M w s T → 0 < T 9 0 → M ≤ 999 + i → i ≤ 5 → 5 - i < n → l < 2 ^ 31 → f < 64 → ∃ S N, f_X5_passSnow_20 w n (nI c) (nI f) (lN l) (nI i) s = some (nI (snowF E c (5 - i) l f T).1, S) ∧ kOk E K N w S (snowF E c (5 - i) l f T).2 ∧ (snowF E c (5 - i) l f T).1 < 64 := by
  intro n
  induction n with
  | zero => intro i l f M s T _ _ _ _ hn; omega
  | succ n ih =>
    intro i l f M s T o hH hM hi hn hl hf
    have h6 := o.2.2.1.1
    rw [f_X5_passSnow_20]
    by_cases q : 5 ≤ i
    · rw [if_pos (show (5 : Int32) ≤ nI i from nI_le (a := 5) q (by omega)), show 5 - i = 0 by omega]
      exact ⟨s, M, rfl, o, hf⟩
    · have hlt := lot_lt l
      have hh : lotN l % T 9 0 < T 9 0 := Nat.mod_lt _ hH
      have hb := o.2.2.1.2.2.2.2.2.1 _ hh
      have o1 : kOk E K M w (zUp s (w + 1) (lotN l % T 9 0) (nI (T 0 (lotN l % T 9 0) - c))) (tU T 0 (lotN l % T 9 0) (T 0 (lotN l % T 9 0) - c)) := o.fr (o.2.1.up (j := 0) (by omega) _ _) (o.2.2.1.up (by omega) (by omega)) (tU_off (by omega)) (fun q k hq => by have := o.1; exact zUp_off (by omega))
      obtain ⟨S2, e2, o2⟩ := k_night o1 (by omega)
      have hf2 := (nightT_bd (E := E) o1.2.2.1 (by omega)).1
      rw [if_neg (show ¬ (5 : Int32) ≤ nI i from nI_ge (b := 5) (by omega) (by omega)), lot_e hl, nm_eq, o.2.1.c0.1, nI_l (by omega), gd_t (lN_ne hH h6), hut_e (by omega) hH h6, nm_eq, gd_t (zib_nI (by omega) (by decide)), gd_t (zib_nI (by omega) (by decide)), zix_nI (by omega), (o.2.1.ch hh).1, nI_subm (by omega) (by omega), nm_eq, e2, bd_s, nI_or, nm_eq, nm_eq, nI_1, show 5 - i = (5 - (i + 1)) + 1 by omega]
      unfold snowF
      exact ih (i + 1) (lotN l) _ (M + 1) S2 _ o2 (by rw [nightT_9.1, tU_off (by omega)]; exact hH) (by omega) (by omega) (by omega) (by omega) (or_64 hf hf2)
theorem k_snow {E : zEv} {K seed c : Nat} {s : zMem} {T : zT} (o : kOk E K 999 20 s T) (hs : seed ≤ 200000) (hc : c ≤ 999) : ∃ S N, f_X5_passSnow 20 (nI seed) (nI c) s = some (nI (snowV E seed c T).1, S) ∧ kOk E K N 20 S (snowV E seed c T).2 ∧ (snowV E seed c T).1 < 64 := by
  have h6 := o.2.2.1.1
  unfold f_X5_passSnow snowV
  rw [show s 20 9 = nI (T 9 0) from o.2.1.c0.1]
  by_cases hH : T 9 0 = 0
  · rw [if_neg (show ¬ (0 : Int32) < nI (T 9 0) by rw [hH]; decide), if_pos hH]
    exact ⟨s, 999, rfl, o, by show 0 < 64; omega⟩
  · rw [if_pos (show (0 : Int32) < nI (T 9 0) from nI_lt (a := 0) (by omega) (by omega)), if_neg hH, nI_l (by omega), lN_1, nm_eq]
    exact k_snowL hc zN 0 (seed + 1) 0 999 s T o (by omega) (by omega) (by omega) (by unfold zN; omega) (by omega) (by omega)
theorem m_snowL {E : zEv} {K c : Nat} {s0 : zMem} {cc : Int32 → zMem → Option (Int32 × zMem)} (hc : c ≤ 999) : ∀ (n i l f M : Nat) (s : zMem) (T : zT), mOk E K M s T → 0 < T 9 0 → M ≤ 999 + i → i ≤ 5 → 5 - i < n → l < 2 ^ 31 → f < 64 → WK s0 s → ∃ S N, f_X7_snows_15 cc n (nI c) (lN l) (nI f) (nI i) s = cc (nI (snowF E c (5 - i) l f T).1) S ∧ mOk E K N S (snowF E c (5 - i) l f T).2 ∧ WK s0 S := by
  intro n
  induction n with
  | zero => intro i l f M s T _ _ _ _ hn; omega
  | succ n ih =>
    intro i l f M s T o hH hM hi hn hl hf hk
    have h6 := o.2.1.1
    rw [f_X7_snows_15]
    by_cases q : 5 ≤ i
    · rw [if_pos (show (5 : Int32) ≤ nI i from nI_le (a := 5) q (by omega)), show 5 - i = 0 by omega]
      exact ⟨s, M, rfl, o, hk⟩
    · have hlt := lot_lt l
      have hh : lotN l % T 9 0 < T 9 0 := Nat.mod_lt _ hH
      have hb := o.2.1.2.2.2.2.2.1 _ hh
      have go : ∀ v : Nat, v = T 0 (lotN l % T 9 0) - c → ∃ S N, (bd (f_X7_nightOf (zUp s 50 (3 * (lotN l % T 9 0)) (nI v))) fun r13 s14 => nm (nI f ||| r13) fun x15 => nm (nI i + 1) fun x16 => f_X7_snows_15 cc n (nI c) (lN (lotN l)) x15 x16 s14) = cc (nI (snowF E c (5 - i) l f T).1) S ∧ mOk E K N S (snowF E c (5 - i) l f T).2 ∧ WK s0 S := by
        intro v hv
        have o1 : mOk E K M (zUp s 50 (3 * (lotN l % T 9 0)) (nI v)) (tU T 0 (lotN l % T 9 0) v) := o.fr (o.1.u0 _ _) (o.2.1.up (by omega) (by omega)) (tU_off (by omega)) (fun q k hq => zUp_off (by omega))
        obtain ⟨S2, e2, o2⟩ := m_night o1 (by omega)
        have hf2 := (nightT_bd (E := E) o1.2.1 (by omega)).1
        have hk2 := (hk.fr (W := zUp s 50 (3 * (lotN l % T 9 0)) (nI v)) (fun a k ha => zUp_off (by omega))).fr (fr_night e2)
        rw [e2, bd_s, nI_or, nm_eq, nm_eq, nI_1, show 5 - i = (5 - (i + 1)) + 1 by omega]
        unfold snowF
        rw [hv] at o2 hf2 ⊢
        exact ih (i + 1) (lotN l) _ (M + 1) S2 _ o2 (by rw [nightT_9.1, tU_off (by omega)]; exact hH) (by omega) (by omega) (by omega) (by omega) (or_64 hf hf2) hk2
      have ew : (if (0 : Int32) ≤ nI (lotN l % T 9 0) then (if nI (lotN l % T 9 0) ≤ 5 then nI (lotN l % T 9 0) else 5) else 0) = nI (lotN l % T 9 0) := by
        rw [if_pos (show (0 : Int32) ≤ nI (lotN l % T 9 0) from nI_pos' (by omega)), if_pos (show nI (lotN l % T 9 0) ≤ 5 from nI_le (b := 5) (by omega) (by omega))]
      have g18 : zib (nI (3 * (lotN l % T 9 0))) 18 = true := zib_nI (by omega) (by decide)
      have x18 : zix (nI (3 * (lotN l % T 9 0))) = 3 * (lotN l % T 9 0) := zix_nI (by omega)
      rw [if_neg (show ¬ (5 : Int32) ≤ nI i from nI_ge (b := 5) (by omega) (by omega)), o.1.c0.1, if_neg (nI_nle hH (by omega)), lot_e hl, nm_eq, nI_l (by omega), gd_t (lN_ne hH h6), hut_e (by omega) hH h6, k_within, bd_s, ew, n3m, gd_t g18, x18, (o.1.ch hh).1]
      by_cases cq : c ≤ T 0 (lotN l % T 9 0)
      · rw [if_pos (nI_le cq (by omega)), gd_t g18, gd_t g18, nI_sub cq, nm_eq]
        exact go _ rfl
      · rw [if_neg (nI_ge (by omega) (by omega)), gd_t g18, nm_eq]
        exact go 0 (by omega)
theorem m_snow {E : zEv} {K seed c : Nat} {s : zMem} {T : zT} (o : mOk E K 999 s T) (hs : seed ≤ 200000) (hc : c ≤ 999) : ∃ S, f_X7_snows (nI seed) (nI c) s = some (nI (snowV E seed c T).1, S) ∧ S 47 36 = nI (heatT (snowV E seed c T).2) ∧ ∀ a k, cM a k → S a k = s a k := by
  have h6 := o.2.1.1
  obtain ⟨S1, e1, o1, k1, _⟩ := m_open o
  have fin : ∀ (f : Nat) (W : zMem) (T' : zT) (N : Nat), mOk E K N W T' → WK s W → ∃ S, (bd (f_X7_heatAll W) fun r24 s25 => nm (zUp s25 47 36 r24) fun s26 => bd (f_X7_lays s26) fun _ s28 => some (nI f, s28)) = some (nI f, S) ∧ S 47 36 = nI (heatT T') ∧ ∀ a k, cM a k → S a k = s a k := by
    intro f W T' N oW kW
    have kW2 : WK s (zUp W 47 36 (nI (heatT T'))) := kW.fr (fun a k ha => zUp_off (by omega))
    obtain ⟨S, e, g⟩ := m_close kW2
    rw [m_heat oW.1 oW.2.1, bd_s, nm_eq, e, bd_s]
    refine ⟨S, rfl, ?_, g⟩
    rw [fr_X7_lays 47 36 (by omega) rfl _ S e, zUp_hit]
  unfold f_X7_snows snowV
  rw [nI_l (by omega), lN_1, nm_eq, e1, bd_s]
  by_cases hH : T 9 0 = 0
  · rw [if_pos hH, show zN = 3999 + 1 from rfl, f_X7_snows_15, if_neg (by decide), o1.1.c0.1, if_pos (show nI (T 9 0) ≤ 0 by rw [hH]; decide)]
    exact fin 0 S1 T 999 o1 k1
  · rw [if_neg hH]
    obtain ⟨S2, N, e2, o2, k2⟩ := m_snowL (cc := fun x22 s23 => bd (f_X7_heatAll s23) fun r24 s25 => nm (zUp s25 47 36 r24) fun s26 => bd (f_X7_lays s26) fun _ s28 => some (x22, s28)) hc zN 0 (seed + 1) 0 999 S1 T o1 (by omega) (by omega) (by omega) (by unfold zN; omega) (by omega) (by omega) k1
    obtain ⟨S, e, g⟩ := fin (snowF E c (5 - 0) (seed + 1) 0 T).1 S2 _ N o2 k2
    exact ⟨S, e2.trans e, g⟩
theorem k_isSnow (p q : Int32) (s : zMem) : f_X6_isSnow p q s = some (if (0 ≤ p ∧ p ≤ 99999) ∧ (0 ≤ q ∧ q ≤ 999) then 1 else 0, s) := by
  unfold f_X6_isSnow
  rw [k_isFromTo, bd_s, zif01]
  by_cases c1 : 0 ≤ p ∧ p ≤ 99999
  · rw [if_pos c1, k_isFromTo, bd_s, zif01]
    by_cases c2 : 0 ≤ q ∧ q ≤ 999
    · rw [if_pos c2, if_pos ⟨c1, c2⟩]
    · rw [if_neg c2, if_neg (fun r => c2 r.2)]
  · rw [if_neg c1, if_neg (fun r => c1 r.1)]
theorem step_drawn (p q w : Int32) : stepOk (f_X6_drawn p q w) (f_X7_drawn p q w) := by
  refine step_q (fun a k v s hk e => fr_X6_drawn a k (by unfold cC at hk; omega) e) (fun a k v s hk e => fr_X7_drawn a k (by omega) e) ?_
  intro T U P K F z B Z s hx hc
  have e1 : f_X6_drawn p q w s = (if (0 ≤ p ∧ p ≤ 99999) ∧ (0 ≤ q ∧ q ≤ 999) then if 0 ≤ w ∧ w ≤ 1 then (bd (f_X6_think s) fun _ s6 => bd (f_X5_passSnow 20 p q s6) fun r7 s8 => if w = 0 then some (r7, s8) else bd (f_X5_heatOfAll 20 s8) fun r9 s10 => some (r9, s10)) else some (-2, s) else some (-2, s)) := by
    unfold f_X6_drawn
    rw [k_isSnow, bd_s, zif01, k_isFromTo, bd_s, zif01]
  have e2 : ∀ S, f_X7_drawn p q w S = (if 0 ≤ p ∧ p ≤ 99999 then if 0 ≤ q ∧ q ≤ 999 then if 0 ≤ w ∧ w ≤ 1 then (bd (f_X7_snows p q S) fun r7 s8 => if w = 0 then some (r7, s8) else some (s8 47 36, s8)) else some (-2, S) else some (-2, S) else some (-2, S)) := by
    intro S
    unfold f_X7_drawn
    rw [k_in, bd_s, zif01, k_in, bd_s, zif01, k_in, bd_s, zif01]
  by_cases c1 : 0 ≤ p ∧ p ≤ 99999
  case neg => exact ⟨-2, s, by rw [e1, if_neg (fun r => c1 r.1)], fun S hm => ⟨S, by rw [e2, if_neg c1], fun _ _ _ => rfl⟩⟩
  by_cases c2 : 0 ≤ q ∧ q ≤ 999
  case neg => exact ⟨-2, s, by rw [e1, if_neg (fun r => c2 r.2)], fun S hm => ⟨S, by rw [e2, if_pos c1, if_neg c2], fun _ _ _ => rfl⟩⟩
  by_cases c3 : 0 ≤ w ∧ w ≤ 1
  case neg => exact ⟨-2, s, by rw [e1, if_pos ⟨c1, c2⟩, if_neg c3], fun S hm => ⟨S, by rw [e2, if_pos c1, if_pos c2, if_neg c3], fun _ _ _ => rfl⟩⟩
  rw [if_pos ⟨c1, c2⟩, if_pos c3] at e1
  obtain ⟨seed, hs, rfl⟩ := (pk_in2 p 99999 (by omega)).resolve_left (fun r => r c1)
  obtain ⟨c, hcc, rfl⟩ := (pk_in2 q 999 (by omega)).resolve_left (fun r => r c2)
  obtain ⟨S1, t1, o1⟩ := k_think (hc.kOk hx)
  obtain ⟨S2, N, t2, o2, _⟩ := k_snow (seed := seed) (c := c) o1 (by omega) hcc
  refine ⟨if w = 0 then nI (snowV (evP P) seed c T).1 else nI (heatT (snowV (evP P) seed c T).2), S2, ?_, fun S hm => ?_⟩
  · rw [e1, t1, bd_s, t2, bd_s]
    by_cases w0 : w = 0
    · rw [if_pos w0, if_pos w0]
    · rw [if_neg w0, if_neg w0, k_heat o2.2.1 o2.2.2.1, bd_s]
  · obtain ⟨S3, t3, h36, g⟩ := m_snow (seed := seed) (c := c) (hm.mOk hx) (by omega) hcc
    refine ⟨S3, ?_, g⟩
    rw [e2, if_pos c1, if_pos c2, if_pos c3, t3, bd_s, h36]
    exact ite_out
-- odds
def gsN (a b : Nat) : Nat → Nat
  | 0 => 1
  | d + 1 => if d = 0 then 1 else if a % (d + 1) = 0 ∧ b % (d + 1) = 0 then d + 1 else gsN a b d
theorem gs_gcd : ∀ b, b < 41 → 0 < b → ∀ a, a < 41 → a ≤ b → gsN a b b = Nat.gcd a b := by decide +kernel
theorem k_gs {a b : Nat} {s : zMem} (ha : a < 2 ^ 31) (hb : b < 2 ^ 31) : ∀ (n d : Nat), d < n → d < 1000 → f_X6_greatestShared_2 n (nI a) (nI b) (nI d) s = some (nI (gsN a b d), s) := by
  intro n
  induction n with
  | zero => intro d hn; omega
  | succ n ih =>
    intro d hn hd
    rw [f_X6_greatestShared_2]
    cases d with
    | zero => rw [if_pos (by decide)]; rfl
    | succ d =>
      unfold gsN
      by_cases c : d = 0
      · rw [if_pos (show nI (d + 1) ≤ 1 by rw [c]; decide), if_pos c]
        rfl
      · have ne : decide (¬ nI (d + 1) = 0) = true := by
          rw [decide_eq_true_eq]
          exact nI_ne0 (by omega) (by omega)
        have ea : zrem (nI a) (nI (d + 1)) = nI (a % (d + 1)) := pk_rem ha (by omega) (by omega)
        have eb : zrem (nI b) (nI (d + 1)) = nI (b % (d + 1)) := pk_rem hb (by omega) (by omega)
        have la : a % (d + 1) < d + 1 := Nat.mod_lt _ (by omega)
        have lb : b % (d + 1) < d + 1 := Nat.mod_lt _ (by omega)
        have em : nI (d + 1) + (-1) = nI d := pk_m1 d
        rw [if_neg (show ¬ nI (d + 1) ≤ 1 from nI_ge (a := 1) (by omega) (by omega)), if_neg c, gd_t ne, ea, gd_t ne, eb, em]
        have e0 : ∀ j, j < d + 1 → (nI j = 0 ↔ j = 0) := fun j hj => nI_eq (b := 0) (by omega) (by omega)
        by_cases c1 : a % (d + 1) = 0
        · rw [if_pos ((e0 _ la).mpr c1)]
          by_cases c2 : b % (d + 1) = 0
          · rw [if_pos ((e0 _ lb).mpr c2), if_pos ⟨c1, c2⟩]
          · rw [if_neg (fun r => c2 ((e0 _ lb).mp r)), if_neg (fun r => c2 r.2), nm_eq]
            exact ih d (by omega) (by omega)
        · rw [if_neg (fun r => c1 ((e0 _ la).mp r)), if_neg (fun r => c1 r.1), nm_eq]
          exact ih d (by omega) (by omega)
theorem m_gcd {x1 x2 : Int64} {x3 : Int32} {s : zMem} {c : Int64 → Int64 → Int32 → Int64 → zMem → Option (Int64 × zMem)} : ∀ (n u v : Nat), v < n → u < 1000 → v < 1000 → f_X7_lowest_16 c n x1 x2 x3 (lN u) (lN v) s = c x1 x2 x3 (lN (Nat.gcd u v)) s := by
  intro n
  induction n with
  | zero => intro u v hn; omega
  | succ n ih =>
    intro u v hn hu hv
    rw [f_X7_lowest_16]
    have e0 : (lg_cmp (lN v) 0 = 0) ↔ v = 0 := by
      rw [lg_cmp_eq]
      exact lN_eq (b := 0) (by omega) (by omega)
    by_cases c0 : v = 0
    · rw [if_pos (e0.mpr c0), c0, Nat.gcd_zero_right]
    · have ne : decide (¬ lN v = 0) = true := by
        rw [decide_eq_true_eq]
        intro r
        exact c0 ((lN_eq (b := 0) (by omega) (by omega)).mp r)
      have er : zremL (lN u) (lN v) = lN (u % v) := pk_lRem (by omega) (by omega) (by omega)
      have hlt : u % v < v := Nat.mod_lt _ (by omega)
      rw [if_neg (fun r => c0 (e0.mp r)), gd_t ne, er, nm_eq, ih v (u % v) (by omega) (by omega) (by omega)]
      have eg : Nat.gcd v (u % v) = Nat.gcd u v := by
        rw [Nat.gcd_comm u v, Nat.gcd_rec v u, Nat.gcd_comm]
      rw [eg]
def oddF (E : zEv) (seed c m : Nat) (T : zT) : Nat → Nat → Nat → Nat
  | 0, _, a => a
  | r + 1, i, a => oddF E seed c m T r (i + 1) (if pc (snowV E (seed + i) c T).1 < m then a else a + 1)
theorem oddF_le {E : zEv} {seed c m : Nat} {T : zT} : ∀ r i a, oddF E seed c m T r i a ≤ a + r := by
  intro r
  induction r with
  | zero => intro i a; exact Nat.le_refl _
  | succ r ih =>
    intro i a
    have := ih (i + 1) (if pc (snowV E (seed + i) c T).1 < m then a else a + 1)
    unfold oddF
    split at this <;> (try rename_i h; rw [if_pos h] ) <;> (try rename_i h; rw [if_neg h]) <;> omega
theorem k_oddL {E : zEv} {K seed c m n0 : Nat} {T : zT} {x : Int32} {cc : Int32 → Int32 → Int32 → zMem → Option (Int64 × zMem)} (hs : seed ≤ 99999) (hc : c ≤ 999) (hm : m ≤ 6) (hn0 : n0 ≤ 40) : ∀ (n i a : Nat) (s : zMem), kOk E K 999 9 s T → i ≤ n0 → n0 - i < n → a ≤ i → ∃ S, f_X6_odds_49 cc n (nI seed) (nI n0) (nI c) (nI m) x (nI a) (nI i) s = cc (nI n0) x (nI (oddF E seed c m T (n0 - i) i a)) S := by
  intro n
  induction n with
  | zero => intro i a s _ _ hn; omega
  | succ n ih =>
    intro i a s o hi hn ha
    rw [f_X6_odds_49]
    by_cases q : n0 ≤ i
    · rw [if_pos (nI_le q (by omega)), show n0 - i = 0 by omega]
      exact ⟨s, rfl⟩
    · obtain ⟨S1, t1, o1⟩ := k_think o
      obtain ⟨S2, N, t2, _, hf⟩ := k_snow (seed := seed + i) (c := c) o1 (by omega) hc
      have hp := pc_le (snowV E (seed + i) c T).1
      have now : kOk E K 999 9 S2 T := k_now o (fun a k h1 h2 => by
        have q2 := fr_X5_passSnow a k (by omega) rfl _ S2 t2
        have q1 := fr_X6_think a k (by omega) rfl _ S1 t1
        rw [q2, q1])
      rw [if_neg (nI_ge (by omega) (by omega)), t1, bd_s, nI_add, t2, bd_s, k_bc hf, bd_s, show n0 - i = (n0 - (i + 1)) + 1 by omega]
      unfold oddF
      by_cases c1 : pc (snowV E (seed + i) c T).1 < m
      · rw [if_pos (nI_lt c1 (by omega)), if_pos c1, nm_eq, nI_1]
        exact ih (i + 1) a S2 now (by omega) (by omega) (by omega)
      · rw [if_neg (nI_nlt (by omega) (by omega)), if_neg c1, nm_eq, nm_eq, nI_1, nI_1]
        exact ih (i + 1) (a + 1) S2 now (by omega) (by omega) (by omega)
theorem m_oddL {E : zEv} {K seed c m n0 : Nat} {T : zT} {x : Int32} {cc : Int32 → Int32 → Int64 → zMem → Option (Int64 × zMem)} (hs : seed ≤ 99999) (hc : c ≤ 999) (hm : m ≤ 6) (hn0 : n0 ≤ 40) : ∀ (n i a : Nat) (s : zMem), mOk E K 999 s T → i ≤ n0 → n0 - i < n → a ≤ i → ∃ S, f_X7_odds_75 cc n (nI seed) (nI n0) (nI c) (nI m) x (lN a) (nI i) s = cc (nI n0) x (lN (oddF E seed c m T (n0 - i) i a)) S ∧ ∀ a k, cM a k → S a k = s a k := by
  intro n
  induction n with
  | zero => intro i a s _ _ hn; omega
  | succ n ih =>
    intro i a s o hi hn ha
    rw [f_X7_odds_75]
    by_cases q : n0 ≤ i
    · rw [if_pos (nI_le q (by omega)), show n0 - i = 0 by omega]
      exact ⟨s, rfl, fun _ _ _ => rfl⟩
    · obtain ⟨S2, t2, _, g⟩ := m_snow (seed := seed + i) (c := c) o (by omega) hc
      have hf : (snowV E (seed + i) c T).1 < 64 := by
        by_cases hH : T 9 0 = 0
        · unfold snowV; rw [if_pos hH]; show 0 < 64; omega
        · unfold snowV
          rw [if_neg hH]
          have bd : ∀ (r l f M : Nat) (T : zT), tBd M T → 0 < T 9 0 → M + r ≤ 100000 → f < 64 → (snowF E c r l f T).1 < 64 := by
            intro r
            induction r with
            | zero => intro l f M T _ _ _ hf; exact hf
            | succ r ihr =>
              intro l f M T hb hH2 hM hf
              have hh : lotN l % T 9 0 < T 9 0 := Nat.mod_lt _ hH2
              have hbh := hb.2.2.2.2.2.1 _ hh
              have hb1 : tBd M (tU T 0 (lotN l % T 9 0) (T 0 (lotN l % T 9 0) - c)) := hb.up (by omega) (by omega)
              have hn := nightT_bd (E := E) hb1 (by omega)
              exact ihr _ _ (M + 1) _ hn.2 (by rw [nightT_9.1, tU_off (by omega)]; exact hH2) (by omega) (or_64 hf hn.1)
          exact bd 5 _ 0 999 T o.2.1 (by omega) (by omega) (by omega)
      have hp := pc_le (snowV E (seed + i) c T).1
      rw [if_neg (nI_ge (by omega) (by omega)), nI_add, t2, bd_s, m_ones hf, bd_s, show n0 - i = (n0 - (i + 1)) + 1 by omega]
      unfold oddF
      by_cases c1 : pc (snowV E (seed + i) c T).1 < m
      · rw [if_pos (nI_lt c1 (by omega)), if_pos c1, nm_eq, nm_eq, nI_1, show lN a + 0 = lN a from lN_add a 0]
        obtain ⟨S, e, f⟩ := ih (i + 1) a S2 (m_now o g) (by omega) (by omega) (by omega)
        exact ⟨S, e, fun a k hk => by rw [f a k hk, g a k hk]⟩
      · rw [if_neg (nI_nlt (by omega) (by omega)), if_neg c1, nm_eq, nm_eq, nI_1, lN_1]
        obtain ⟨S, e, f⟩ := ih (i + 1) (a + 1) S2 (m_now o g) (by omega) (by omega) (by omega)
        exact ⟨S, e, fun a k hk => by rw [f a k hk, g a k hk]⟩
def oddV (a b p : Nat) : Int64 := if p = 0 then lN (a / Nat.gcd a b) else lN (b / Nat.gcd a b)
theorem k_oddE {a b p : Nat} {s : zMem} (hb : 0 < b) (hb40 : b ≤ 40) (hab : a ≤ b) (hp : p ≤ 1) : (bd (f_X6_greatestShared (nI a) (nI b) s) fun r30 s31 => if nI p = 0 then gd (decide (¬ r30 = 0)) <| some ((nI a / r30).toInt64, s31) else gd (decide (¬ r30 = 0)) <| some ((nI b / r30).toInt64, s31)) = some (oddV a b p, s) := by
  have e : f_X6_greatestShared (nI a) (nI b) s = some (nI (Nat.gcd a b), s) := by
    unfold f_X6_greatestShared
    rw [k_gs (by omega) (by omega) zN b (by unfold zN; omega) (by omega), gs_gcd b (by omega) hb a (by omega) hab]
  have g0 : 0 < Nat.gcd a b := Nat.gcd_pos_of_pos_right _ hb
  have g1 : Nat.gcd a b ≤ b := Nat.gcd_le_right _ hb
  have ne : decide (¬ nI (Nat.gcd a b) = 0) = true := by
    rw [decide_eq_true_eq]
    exact nI_ne0 g0 (by omega)
  have da : a / Nat.gcd a b ≤ a := Nat.div_le_self _ _
  have db : b / Nat.gcd a b ≤ b := Nat.div_le_self _ _
  rw [e, bd_s, gd_t ne, gd_t ne, pk_div (by omega) g0 (by omega), pk_div (by omega) g0 (by omega), nI_l (by omega), nI_l (by omega)]
  unfold oddV
  by_cases p0 : p = 0
  · rw [if_pos (show nI p = 0 by rw [p0]; rfl), if_pos p0]
  · rw [if_neg (show ¬ nI p = 0 from nI_ne0 (by omega) (by omega)), if_neg p0]
theorem m_oddE {a b p : Nat} {s : zMem} (hb : 0 < b) (hb40 : b ≤ 40) (hab : a ≤ b) (hp : p ≤ 1) : f_X7_lowest (lN a) (lN b) (nI p) s = some (oddV a b p, s) := by
  unfold f_X7_lowest oddV
  have e0 : (lg_cmp (lN a) 0 = 0) ↔ a = 0 := by
    rw [lg_cmp_eq]
    exact lN_eq (b := 0) (by omega) (by omega)
  by_cases c0 : a = 0
  · rw [if_pos (e0.mpr c0), nI_l (by omega), c0, Nat.gcd_zero_left, Nat.zero_div, Nat.div_self hb]
    rcases (by omega : p = 0 ∨ p = 1) with rfl | rfl <;> rfl
  · have g0 : 0 < Nat.gcd a b := Nat.gcd_pos_of_pos_right _ hb
    have g1 : Nat.gcd a b ≤ b := Nat.gcd_le_right _ hb
    have ne : decide (¬ lN (Nat.gcd a b) = 0) = true := by
      rw [decide_eq_true_eq]
      intro r
      have := (lN_eq (b := 0) (by omega) (by omega)).mp r
      omega
    rw [if_neg (fun r => c0 (e0.mp r))]
    refine (m_gcd zN a b (by unfold zN; omega) (by omega) (by omega)).trans ?_
    rw [gd_t ne, gd_t ne, pk_lDiv (by omega) g0 (by omega), pk_lDiv (by omega) g0 (by omega)]
    by_cases p0 : p = 0
    · rw [if_pos (show nI p = 0 by rw [p0]; rfl), if_pos p0]
    · rw [if_neg (show ¬ nI p = 0 from nI_ne0 (by omega) (by omega)), if_neg p0]
theorem step_odds (p n q m w : Int32) : stepOk (f_X6_odds p n q m w) (f_X7_odds p n q m w) := by
  refine step_q (fun a k v s hk e => fr_X6_odds a k (by unfold cC at hk; omega) e) (fun a k v s hk e => fr_X7_odds a k (by omega) e) ?_
  intro T U P K F z B Z s hx hc
  have e1 : f_X6_odds p n q m w s = (if (0 ≤ p ∧ p ≤ 99999) ∧ (0 ≤ q ∧ q ≤ 999) then if 1 ≤ n ∧ n ≤ 40 then if 0 ≤ m ∧ m ≤ 6 then if 0 ≤ w ∧ w ≤ 1 then (f_X6_odds_49 (fun x26 x27 x28 s29 => bd (f_X6_greatestShared x28 x26 s29) fun r30 s31 => if x27 = 0 then gd (decide (¬ r30 = 0)) <| some ((x28 / r30).toInt64, s31) else gd (decide (¬ r30 = 0)) <| some ((x26 / r30).toInt64, s31)) zN p n q m w 0 0 s) else some (-4611686018427387904, s) else some (-4611686018427387904, s) else some (-4611686018427387904, s) else some (-4611686018427387904, s)) := by
    unfold f_X6_odds
    rw [k_isSnow, bd_s, zif01, k_isFromTo, bd_s, zif01, k_isFromTo, bd_s, zif01, k_isFromTo, bd_s, zif01]
  have e37 : ∀ S, f_X7_odds_37 p n q m w 0 S = some (-4611686018427387904, S) := by
    intro S
    unfold f_X7_odds_37
    rw [if_pos rfl]
  have e38 : ∀ S, f_X7_odds_37 p n q m w 1 S = (if 0 ≤ m ∧ m ≤ 6 then if 0 ≤ w ∧ w ≤ 1 then (f_X7_odds_75 (fun x36 x37 x38 s39 => bd (f_X7_lowest x38 x36.toInt64 x37 s39) fun r40 s41 => some (r40, s41)) zN p n q m w 0 0 S) else some (-4611686018427387904, S) else some (-4611686018427387904, S)) := by
    intro S
    unfold f_X7_odds_37
    rw [if_neg (by decide), k_in, bd_s, zif01, k_in, bd_s, zif01]
  have e2 : ∀ S, f_X7_odds p n q m w S = (if 0 ≤ p ∧ p ≤ 99999 then if 1 ≤ n ∧ n ≤ 40 then if 0 ≤ q ∧ q ≤ 999 then (if 0 ≤ m ∧ m ≤ 6 then if 0 ≤ w ∧ w ≤ 1 then (f_X7_odds_75 (fun x36 x37 x38 s39 => bd (f_X7_lowest x38 x36.toInt64 x37 s39) fun r40 s41 => some (r40, s41)) zN p n q m w 0 0 S) else some (-4611686018427387904, S) else some (-4611686018427387904, S)) else some (-4611686018427387904, S) else some (-4611686018427387904, S) else some (-4611686018427387904, S)) := by
    intro S
    unfold f_X7_odds f_X7_odds_36
    rw [k_in, bd_s, zif01, k_in, bd_s, zif01, k_in, bd_s, zif01, e37, e38]
  by_cases c1 : 0 ≤ p ∧ p ≤ 99999
  case neg => exact ⟨_, s, by rw [e1, if_neg (fun r => c1 r.1)], fun S hm => ⟨S, by rw [e2, if_neg c1], fun _ _ _ => rfl⟩⟩
  by_cases c2 : 0 ≤ q ∧ q ≤ 999
  case neg =>
    refine ⟨_, s, by rw [e1, if_neg (fun r => c2 r.2)], fun S hm => ⟨S, ?_, fun _ _ _ => rfl⟩⟩
    rw [e2, if_pos c1, if_neg c2]
    split <;> rfl
  by_cases c3 : 1 ≤ n ∧ n ≤ 40
  case neg => exact ⟨_, s, by rw [e1, if_pos ⟨c1, c2⟩, if_neg c3], fun S hm => ⟨S, by rw [e2, if_pos c1, if_neg c3], fun _ _ _ => rfl⟩⟩
  by_cases c4 : 0 ≤ m ∧ m ≤ 6
  case neg => exact ⟨_, s, by rw [e1, if_pos ⟨c1, c2⟩, if_pos c3, if_neg c4], fun S hm => ⟨S, by rw [e2, if_pos c1, if_pos c3, if_pos c2, if_neg c4], fun _ _ _ => rfl⟩⟩
  by_cases c5 : 0 ≤ w ∧ w ≤ 1
  case neg => exact ⟨_, s, by rw [e1, if_pos ⟨c1, c2⟩, if_pos c3, if_pos c4, if_neg c5], fun S hm => ⟨S, by rw [e2, if_pos c1, if_pos c3, if_pos c2, if_pos c4, if_neg c5], fun _ _ _ => rfl⟩⟩
  rw [if_pos ⟨c1, c2⟩, if_pos c3, if_pos c4, if_pos c5] at e1
  obtain ⟨seed, hs, rfl⟩ := (pk_in2 p 99999 (by omega)).resolve_left (fun r => r c1)
  obtain ⟨c, hcc, rfl⟩ := (pk_in2 q 999 (by omega)).resolve_left (fun r => r c2)
  obtain ⟨m', hm6, rfl⟩ := (pk_in2 m 6 (by omega)).resolve_left (fun r => r c4)
  obtain ⟨w', hw1, rfl⟩ := (pk_in2 w 1 (by omega)).resolve_left (fun r => r c5)
  have hn0 : ¬ n < 0 := fun r => by
    have a := c3.1
    rw [Int32.le_iff_toInt_le] at a
    rw [Int32.lt_iff_toInt_lt] at r
    have u0 : (0 : Int32).toInt = 0 := rfl
    have u1 : (1 : Int32).toInt = 1 := rfl
    omega
  obtain ⟨b, hb40, rfl⟩ := nI_of2 (M := 40) (n := 40) rfl hn0 c3.2
  have hb1 : 1 ≤ b := (nI_leI (a := 1) (by omega) (by omega)).mp c3.1
  have hle := oddF_le (E := evP P) (seed := seed) (c := c) (m := m') (T := T) (b - 0) 0 0
  obtain ⟨S1, t1⟩ := k_oddL (x := nI w') (cc := fun x26 x27 x28 s29 => bd (f_X6_greatestShared x28 x26 s29) fun r30 s31 => if x27 = 0 then gd (decide (¬ r30 = 0)) <| some ((x28 / r30).toInt64, s31) else gd (decide (¬ r30 = 0)) <| some ((x26 / r30).toInt64, s31)) hs hcc hm6 hb40 zN 0 0 s (hc.kOk hx) (by omega) (by unfold zN; omega) (by omega)
  refine ⟨oddV (oddF (evP P) seed c m' T (b - 0) 0 0) b w', S1, ?_, fun S hm => ?_⟩
  · rw [e1]
    refine t1.trans ?_
    exact k_oddE (by omega) hb40 (by omega) hw1
  · obtain ⟨S2, t2, g⟩ := m_oddL (x := nI w') (cc := fun x36 x37 x38 s39 => bd (f_X7_lowest x38 x36.toInt64 x37 s39) fun r40 s41 => some (r40, s41)) hs hcc hm6 hb40 zN 0 0 S (hm.mOk hx) (by omega) (by unfold zN; omega) (by omega)
    refine ⟨S2, ?_, g⟩
    rw [e2, if_pos c1, if_pos c3, if_pos c2, if_pos c4, if_pos c5]
    refine t2.trans ?_
    rw [nI_l (by omega), m_oddE (by omega) hb40 (by omega) hw1, bd_s]

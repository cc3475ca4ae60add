-- a film
def nTN (E : zEv) (T : zT) : Nat → zT
  | 0 => T
  | n + 1 => (nightT E (nTN E T n)).2
theorem nTN_9 {E : zEv} {T : zT} : ∀ n, nTN E T n 9 0 = T 9 0 := by
  intro n
  induction n with
  | zero => rfl
  | succ n ih => show (nightT E (nTN E T n)).2 9 0 = _; rw [nightT_9.1, ih]
def filV (E : zEv) (T : zT) (h n i : Nat) : Int32 := if i < n then nI (nTN E T (i + 1) 0 h) else 0
def shF (Z : zZ) (j : Nat) (n : Nat) (v : Nat → Int32) : zZ := fun a q => if a = 0 ∧ q = j then 1 else if a = 1 ∧ q = j then nI n else if a = 2 ∧ 40 * j ≤ q ∧ q < 40 * j + 40 then v (q - 40 * j) else Z a q
theorem short_id : ∀ v, v ≤ 9999 → (nI v).toInt16.toInt32 = nI v := by
  intro v hv
  apply Int32.toInt_inj.mp
  rw [nI_toInt (by omega)]
  have e : (nI v).toInt16.toInt32.toInt = ((nI v).toInt).bmod (2 ^ 16) := by simp
  rw [e, nI_toInt (by omega)]
  exact Int.bmod_eq_of_le (by omega) (by omega)
def mrg (S s : zMem) : zMem := fun a k => if a = 62 then S a k else s a k
theorem mrg_62 {S s : zMem} {k : Nat} : mrg S s 62 k = S 62 k := if_pos rfl
theorem mrg_o {S s : zMem} {a k : Nat} (h : a ≠ 62) : mrg S s a k = s a k := if_neg h
theorem k_filmL {E : zEv} {K j h m : Nat} {T : zT} (hj : j < 4) (hm : m ≤ 20) (hh : h < T 9 0) : ∀ (n i M : Nat) (s : zMem), kOk E K M 20 s (nTN E T i) → M ≤ 999 + i → i ≤ m → m - i < n → s 43 j = 1 → ∃ S, f_X6_film_60 n (nI j) (nI h) (nI m) (nI i) s = some (nI m, S) ∧ (∀ q, S 45 q = if 40 * j + i ≤ q ∧ q < 40 * j + m then nI (nTN E T (q - 40 * j + 1) 0 h) else s 45 q) ∧ ∀ q k, q = 43 ∨ q = 44 → S q k = s q k := by
  intro n
  induction n with
  | zero => intro i M s _ _ _ hn; omega
  | succ n ih =>
    intro i M s o hM hi hn h43
    have h6 := o.2.2.1.1
    rw [nTN_9] at h6
    rw [f_X6_film_60]
    by_cases q : m ≤ i
    · rw [if_pos (nI_le q (by omega))]
      exact ⟨s, rfl, fun q => by rw [if_neg (by omega)], fun _ _ _ => rfl⟩
    · obtain ⟨S1, e1, o1⟩ := k_night o (by omega)
      have f1 : ∀ a k, a = 43 ∨ a = 44 ∨ a = 45 → S1 a k = s a k := fun a k ha => fr_X5_passNight a k (by omega) rfl _ S1 e1
      have n9 : h < (nightT E (nTN E T i)).2 9 0 := by rw [nightT_9.1, nTN_9]; exact hh
      have c1 : S1 21 h = nI ((nightT E (nTN E T i)).2 0 h) := (o1.2.1.ch n9).1
      have hb := (o1.2.2.1.2.2.2.2.2.1 h n9).1
      have w : wrV 1 (nI ((nightT E (nTN E T i)).2 0 h)) = nI ((nightT E (nTN E T i)).2 0 h) := by
        unfold wrV
        rw [if_neg (by decide), if_pos rfl, short_id _ hb]
      rw [if_neg (nI_ge (by omega) (by omega)), e1, bd_s, gd_t (zib_nI (by omega) (by decide)), zix_nI (by omega), c1, k_write hj (by omega) (by rw [f1 _ _ (by omega), h43]), bd_s, w, nm_eq, nI_1]
      have o2 : kOk E K (M + 1) 20 (zUp S1 45 (40 * j + i) (nI ((nightT E (nTN E T i)).2 0 h))) (nTN E T (i + 1)) := o1.fr (o1.2.1.of (fun a k hk => zUp_off (by omega))) o1.2.2.1 rfl (fun q k hq => zUp_off (by omega))
      obtain ⟨S, e, f, f9⟩ := ih (i + 1) (M + 1) _ o2 (by omega) (by omega) (by omega) (by rw [zUp_off (by omega), f1 _ _ (by omega), h43])
      refine ⟨S, e, fun q => ?_, fun q k hq => by rw [f9 q k hq, zUp_off (by omega), f1 q k (by omega)]⟩
      rw [f q]
      by_cases c2 : 40 * j + (i + 1) ≤ q ∧ q < 40 * j + m
      · rw [if_pos c2, if_pos (by omega)]
      · rw [if_neg c2]
        by_cases c3 : q = 40 * j + i
        · rw [if_pos (by omega), c3, zUp_hit, Nat.add_sub_cancel_left]
          rfl
        · rw [zUp_off (by omega), if_neg (by omega), f1 _ _ (by omega)]
theorem m_filmL {E : zEv} {K j h m : Nat} {T : zT} {s0 : zMem} {c : Int32 → zMem → Option (Int32 × zMem)} (hj : j < 4) (hm : m ≤ 20) (hh : h < T 9 0) : ∀ (n i M : Nat) (s : zMem), mOk E K M s (nTN E T (min i m)) → M ≤ 999 + min i m → i ≤ 40 → 40 - i < n → (∀ a k, a ≠ 62 → 47 ≤ a → s0 a k = s0 a k) → WK (mrg s s0) s → ∃ S, f_X7_film_57 c n (nI j) (nI h) (nI m) (nI i) s = c (nI m) S ∧ (∀ q, S 62 q = if 40 * j + i ≤ q ∧ q < 40 * j + 40 then filV E T h m (q - 40 * j) else s 62 q) ∧ WK (mrg S s0) S := by
  intro n
  induction n with
  | zero => intro i M s _ _ _ hn; omega
  | succ n ih =>
    intro i M s o hM hi hn _ hk
    have h6 := o.2.1.1
    rw [nTN_9] at h6
    rw [f_X7_film_57]
    by_cases q : 40 ≤ i
    · rw [if_pos (show (40 : Int32) ≤ nI i from nI_le (a := 40) q (by omega))]
      exact ⟨s, rfl, fun q => by rw [if_neg (by omega)], hk⟩
    · have wk_up : ∀ (S1 : zMem) (v : Int32), WK (mrg S1 s0) S1 → WK (mrg (zUp S1 62 (40 * j + i) v) s0) (zUp S1 62 (40 * j + i) v) := by
        intro S1 v h
        obtain ⟨h1, k1, k2, k3, k4⟩ := h
        refine ⟨fun a k a1 a2 a3 a4 a5 a6 => ?_, fun k hk => by rw [zUp_off (by omega), k1 k hk, mrg_o (by omega), mrg_o (by omega)], fun k hk => ?_, by rw [zUp_off (by omega), k3, mrg_o (by omega), mrg_o (by omega)], by rw [zUp_off (by omega), k4, mrg_o (by omega), mrg_o (by omega)]⟩
        · by_cases c62 : a = 62
          · rw [c62, mrg_62]
          · rw [mrg_o c62, zUp_off (by omega), h1 a k a1 a2 a3 a4 a5 a6, mrg_o c62]
        · have := k2 k hk
          rw [mrg_o (by omega), mrg_o (by omega), mrg_o (by omega), mrg_o (by omega)] at this
          rw [zUp_off (by omega), zUp_off (by omega), zUp_off (by omega), zUp_off (by omega), mrg_o (by omega), mrg_o (by omega), mrg_o (by omega), mrg_o (by omega)]
          exact this
      have o1 : mOk E K M (zUp s 62 (40 * j + i) 0) (nTN E T (min i m)) := o.fr (o.1.of (fun a k hk => zUp_off (by omega))) o.2.1 rfl (fun q k hq => zUp_off (by omega))
      have hk1 := wk_up s 0 hk
      rw [if_neg (show ¬ (40 : Int32) ≤ nI i from nI_ge (b := 40) (by omega) (by omega)), nI40', gd_t (zib_nI (by omega) (by decide)), zix_nI (by omega), nm_eq]
      by_cases c1 : m ≤ i
      · rw [if_pos (nI_le c1 (by omega)), nm_eq, nI_1]
        have em : min (i + 1) m = min i m := by omega
        obtain ⟨S, e, f, k⟩ := ih (i + 1) M _ (by rw [em]; exact o1) (by omega) (by omega) (by omega) (fun _ _ _ _ => rfl) hk1
        refine ⟨S, e, fun q => ?_, k⟩
        rw [f q]
        by_cases c2 : 40 * j + (i + 1) ≤ q ∧ q < 40 * j + 40
        · rw [if_pos c2, if_pos (by omega)]
        · rw [if_neg c2]
          by_cases c3 : q = 40 * j + i
          · rw [if_pos (by omega), c3, zUp_hit, Nat.add_sub_cancel_left]
            unfold filV
            rw [if_neg (by omega)]
          · rw [zUp_off (by omega), if_neg (by omega)]
      · have e0 : min i m = i := by omega
        rw [e0] at o1 hM
        obtain ⟨S1, e1, o2⟩ := m_night o1 (by omega)
        have f1 := fr_night e1
        have n9 : h < (nightT E (nTN E T i)).2 9 0 := by rw [nightT_9.1, nTN_9]; exact hh
        have hk2 : WK (mrg S1 s0) S1 := by
          have hk3 := hk1.fr f1
          have ef : (mrg S1 s0) = (mrg (zUp s 62 (40 * j + i) 0) s0) := by
            funext a k
            by_cases c62 : a = 62
            · rw [c62, mrg_62, mrg_62, f1 62 k (by omega)]
            · rw [mrg_o c62, mrg_o c62]
          rw [ef]
          exact hk3
        have hk4 := wk_up S1 (nI ((nightT E (nTN E T i)).2 0 h)) hk2
        have o3 : mOk E K (M + 1) (zUp S1 62 (40 * j + i) (nI ((nightT E (nTN E T i)).2 0 h))) (nTN E T (min (i + 1) m)) := by
          rw [show min (i + 1) m = i + 1 by omega]
          exact o2.fr (o2.1.of (fun a k hk => zUp_off (by omega))) o2.2.1 rfl (fun q k hq => zUp_off (by omega))
        rw [if_neg (nI_ge (by omega) (by omega)), e1, bd_s, n3m, gd_t (zib_nI (by omega) (by decide)), gd_t (zib_nI (by omega) (by decide)), zix_nI (by omega), (o2.1.ch n9).1, nm_eq, nm_eq, nI_1]
        obtain ⟨S, e, f, k⟩ := ih (i + 1) (M + 1) _ o3 (by omega) (by omega) (by omega) (fun _ _ _ _ => rfl) hk4
        refine ⟨S, e, fun q => ?_, k⟩
        rw [f q]
        by_cases c2 : 40 * j + (i + 1) ≤ q ∧ q < 40 * j + 40
        · rw [if_pos c2, if_pos (by omega)]
        · rw [if_neg c2]
          by_cases c3 : q = 40 * j + i
          · rw [if_pos (by omega), c3, zUp_hit, Nat.add_sub_cancel_left]
            unfold filV
            rw [if_pos (by omega)]
            rfl
          · rw [zUp_off (by omega), if_neg (by omega), f1 _ _ (by omega), zUp_off (by omega)]
theorem step_film (p h n : Int32) : stepOk (f_X6_film p h n) (f_X7_film p h n) := by
  refine step_c (fun a k v s hk e => fr_X6_film a k (by omega) e) (fun a k v s hk e => fr_X7_film a k (by omega) e) ?_
  intro T U P K F z B Z s hx hc
  have h6 := hx.1.1
  have same : ∀ v, f_X6_film p h n s = some (v, s) → (∀ S, zRM T U P K F z B Z S → f_X7_film p h n S = some (v, S)) → ∃ T' U' P' K' F' z' B' Z' v S, f_X6_film p h n s = some (v, S) ∧ zRX T' U' P' K' F' Z' ∧ zRC T' U' P' K' F' z' B' Z' S ∧ ∀ S, zRM T U P K F z B Z S → ∃ S', f_X7_film p h n S = some (v, S') ∧ zRM T' U' P' K' F' z' B' Z' S' := fun v q1 q2 => ⟨T, U, P, K, F, z, B, Z, v, s, q1, hx, hc, fun S hm => ⟨S, q2 S hm, hm⟩⟩
  have e1 : f_X6_film p h n s = (if 0 ≤ p ∧ p ≤ 3 then if 0 ≤ h ∧ h < nI (T 9 0) then if 0 ≤ n ∧ n ≤ 20 then (bd (f_X3_renew p 1 n s) fun _ s8 => bd (f_X6_think s8) fun _ s10 => f_X6_film_60 zN p h n 0 s10) else some (-7, s) else some (-5, s) else some (-2, s)) := by
    unfold f_X6_film
    rw [k_sheetP, bd_s, zif01, k_hutP h hc.1.c0.1, bd_s, zif01, k_isFromTo, bd_s, zif01]
  have e2 : ∀ S, zRM T U P K F z B Z S → f_X7_film p h n S = (if 0 ≤ p ∧ p ≤ 3 then if 0 ≤ h ∧ h < nI (T 9 0) then if 0 ≤ n ∧ n ≤ 20 then (gd (zib p 4) <| nm (zUp S 60 (zix p) 1) fun s7 => gd (zib p 4) <| nm (zUp s7 61 (zix p) n) fun s8 => bd (f_X7_keeps s8) fun _ s10 => f_X7_film_57 (fun x22 s23 => bd (f_X7_lays s23) fun _ s25 => some (x22, s25)) zN p h n 0 s10) else some (-7, S) else some (-5, S) else some (-2, S)) := by
    intro S hm
    unfold f_X7_film
    rw [k_in, bd_s, zif01, m_hutP h hm.1.c0.1 (by omega), bd_s, zif01, k_in, bd_s, zif01]
  by_cases c1 : 0 ≤ p ∧ p ≤ 3
  case neg => exact same (-2) (by rw [e1, if_neg c1]) (fun S hm => by rw [e2 S hm, if_neg c1])
  by_cases c2 : 0 ≤ h ∧ h < nI (T 9 0)
  case neg => exact same (-5) (by rw [e1, if_pos c1, if_neg c2]) (fun S hm => by rw [e2 S hm, if_pos c1, if_neg c2])
  by_cases c3 : 0 ≤ n ∧ n ≤ 20
  case neg => exact same (-7) (by rw [e1, if_pos c1, if_pos c2, if_neg c3]) (fun S hm => by rw [e2 S hm, if_pos c1, if_pos c2, if_neg c3])
  rw [if_pos c1, if_pos c2, if_pos c3] at e1
  obtain ⟨j, hj, rfl⟩ := (pk_in2 p 3 (by omega)).resolve_left (fun r => r c1)
  obtain ⟨i, hi, rfl⟩ := (ltP h (T 9 0) (by omega)).resolve_left (fun r => r c2)
  obtain ⟨m, hm, rfl⟩ := (pk_in2 n 20 (by omega)).resolve_left (fun r => r c3)
  have vF : (∀ q, shF Z j m (filV (evP P) T i m) 0 q = if q = j then 1 else Z 0 q) ∧ (∀ q, shF Z j m (filV (evP P) T i m) 1 q = if q = j then nI m else Z 1 q) ∧ ∀ q, shF Z j m (filV (evP P) T i m) 2 q = if 40 * j ≤ q ∧ q < 40 * j + 40 then filV (evP P) T i m (q - 40 * j) else Z 2 q := by
    unfold shF
    refine ⟨fun i => ?_, fun i => ?_, fun i => ?_⟩
    · by_cases c : i = j
      · rw [if_pos ⟨rfl, c⟩, if_pos c]
      · rw [if_neg (fun r => c r.2), if_neg (by omega), if_neg (by omega), if_neg c]
    · by_cases c : i = j
      · rw [if_neg (by omega), if_pos ⟨rfl, c⟩, if_pos c]
      · rw [if_neg (by omega), if_neg (fun r => c r.2), if_neg (by omega), if_neg c]
    · rw [if_neg (by omega), if_neg (by omega)]
      by_cases c : 40 * j ≤ i ∧ i < 40 * j + 40
      · rw [if_pos ⟨rfl, c⟩, if_pos c]
      · rw [if_neg (fun r => c r.2), if_neg c]
  obtain ⟨v0, v1, v2⟩ := vF
  have hsh : shOk (shF Z j m (filV (evP P) T i m)) := by
    intro q hq
    rw [v0, v1]
    by_cases c : q = j
    · rw [if_pos c, if_pos c]; exact ⟨Or.inr (Or.inr (Or.inl rfl)), m, by omega, rfl⟩
    · rw [if_neg c, if_neg c]; exact hx.2.2.2.2.2 q hq
  -- the class
  obtain ⟨r1, r2, r3⟩ := renew_c (Z := Z) (j := j) (x := 1) (y := nI m) (s := s) (a0 := 43) (a1 := 44) (a2 := 45) (by omega) (by omega) (by omega) hc.2.2.2.2.2.2.1 hc.2.2.2.2.2.2.2
  rw [k_renew (by omega), bd_s] at e1
  generalize zrS 45 j 0 (zUp (zUp s 43 j 1) 44 j (nI m)) = s1 at e1 r1 r2 r3
  have ok1 : kOk (evP P) K 999 9 s1 T := k_now (hc.kOk hx) (fun a k h1 h2 => r3 a k (by omega) (by omega) (by omega))
  obtain ⟨S2, t2, o2⟩ := k_think ok1
  have f2 : ∀ a k, ¬ (20 ≤ a ∧ a ≤ 30) → S2 a k = s1 a k := fun a k ha => fr_X6_think a k (by omega) rfl _ S2 t2
  obtain ⟨z0, z1, z2⟩ := shZ_v (Z := Z) (j := j) (x := 1) (y := nI m)
  obtain ⟨S3, t3, g3, f34⟩ := k_filmL (E := evP P) (K := K) (j := j) (h := i) (m := m) (T := T) (by omega) hm hi zN 0 999 S2 o2 (by omega) (by omega) (by unfold zN; omega) (by rw [f2 _ _ (by omega), (r1 j (by omega)).1, z0, if_pos rfl])
  have e3 : f_X6_film (nI j) (nI i) (nI m) s = some (nI m, S3) := by
    rw [e1, t2, bd_s]
    exact t3
  have f3 : ∀ a k, cC a k → ¬ (43 ≤ a ∧ a ≤ 45) → S3 a k = s a k := fun a k ha hn => fr_X6_film a k (by unfold cC at ha; omega) rfl _ S3 e3
  refine ⟨T, U, P, K, F, z, B, shF Z j m (filV (evP P) T i m), nI m, S3, e3, hx.upZ hsh, hc.upZ f3 (fun q hq => ?_) (fun q hq => ?_), fun S hmm => ?_⟩
  · rw [f34 _ _ (by omega), f34 _ _ (by omega), f2 _ _ (by omega), f2 _ _ (by omega), (r1 q hq).1, (r1 q hq).2, z0, z1, v0, v1]
    exact ⟨rfl, rfl⟩
  · rw [g3 q, v2]
    by_cases c : 40 * j ≤ q ∧ q < 40 * j + 40
    · rw [if_pos c]
      unfold filV
      by_cases d : q < 40 * j + m
      · rw [if_pos (by omega), if_pos (by omega)]
      · rw [if_neg (by omega), if_neg (by omega), f2 _ _ (by omega), r2 q hq, z2, if_pos c]
    · rw [if_neg (by omega), if_neg c, f2 _ _ (by omega), r2 q hq, z2, if_neg c]
  · -- the model
    have e4 := e2 S hmm
    rw [if_pos c1, if_pos c2, if_pos c3, gd_t (zib_nI (by omega) (by decide)), zix_nI (by omega), nm_eq, gd_t (zib_nI (by omega) (by decide)), nm_eq] at e4
    have mk := hmm.mOk hx
    have g0 : ∀ a k, a ≠ 60 → a ≠ 61 → zUp (zUp S 60 j 1) 61 j (nI m) a k = S a k := fun a k h1 h2 => by rw [zUp_off (by omega), zUp_off (by omega)]
    have h60 : ∀ q, q < 4 → zUp (zUp S 60 j 1) 61 j (nI m) 60 q = (if q = j then 1 else Z 0 q) ∧ zUp (zUp S 60 j 1) 61 j (nI m) 61 q = (if q = j then nI m else Z 1 q) := by
      intro q hq
      have w := hmm.2.2.2.2.2.2.1 q hq
      by_cases c : q = j
      · rw [if_pos c, if_pos c, c, zUp_off (by omega), zUp_hit, zUp_hit]; exact ⟨rfl, rfl⟩
      · rw [if_neg c, if_neg c, zUp_off (by omega), zUp_off (by omega), zUp_off (by omega), zUp_off (by omega)]; exact w
    generalize zUp (zUp S 60 j 1) 61 j (nI m) = s5 at e4 g0 h60
    have ok5 : mOk (evP P) K 999 s5 T := mk.fr (mk.1.of (fun a k ha => g0 a k (by omega) (by omega))) mk.2.1 rfl (fun q k hq => g0 q k (by omega) (by omega))
    obtain ⟨S6, t6, o6, k6, g6⟩ := m_open ok5
    have k6' : WK (mrg S6 s5) S6 := by
      have ef : (mrg S6 s5) = s5 := by
        funext a k
        by_cases c62 : a = 62
        · rw [c62, mrg_62, g6 62 k (by omega)]
        · rw [mrg_o c62]
      rw [ef]
      exact k6
    obtain ⟨S7, t7, g7, k7⟩ := m_filmL (c := fun x22 s23 => bd (f_X7_lays s23) fun _ s25 => some (x22, s25)) (E := evP P) (K := K) (j := j) (h := i) (m := m) (T := T) (s0 := s5) (by omega) hm hi zN 0 999 S6 (by rw [Nat.zero_min]; exact o6) (by omega) (by omega) (by unfold zN; omega) (fun _ _ _ _ => rfl) k6'
    obtain ⟨S8, t8, g8⟩ := m_close k7
    have e5 : f_X7_film (nI j) (nI i) (nI m) S = some (nI m, S8) := by
      rw [e4, t6, bd_s]
      refine t7.trans ?_
      rw [t8, bd_s]
    have other : ∀ a k, cM a k → a ≠ 62 → S8 a k = s5 a k := fun a k ha h62 => by rw [g8 a k ha, mrg_o h62]
    refine ⟨S8, e5, hmm.upZ hx.1 (fun a k ha hn => by rw [other a k ha (by omega), g0 a k (by omega) (by omega)]) (fun q hq => ?_) (fun q hq => ?_)⟩
    · rw [other 60 q (by unfold cM; omega) (by omega), other 61 q (by unfold cM; omega) (by omega), (h60 q hq).1, (h60 q hq).2, v0, v1]
      exact ⟨rfl, rfl⟩
    · rw [g8 62 q (by unfold cM; omega), mrg_62, g7 q, v2, Nat.add_zero]
      by_cases c : 40 * j ≤ q ∧ q < 40 * j + 40
      · rw [if_pos c, if_pos c]
      · rw [if_neg c, if_neg c, g6 _ _ (by omega), g0 _ _ (by omega) (by omega)]
        exact hmm.2.2.2.2.2.2.2.1 q hq

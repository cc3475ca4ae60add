-- the model: its fields stand for T
def mOk (E : zEv) (K M : Nat) (s : zMem) (T : zT) : Prop := rM s T ∧ tBd M T ∧ T 9 3 < K ∧ zEM E K s
theorem zEM.of {E : zEv} {K : Nat} {s S : zMem} (h : zEM E K s) (hS : ∀ q k, (q = 56 ∨ q = 57) → S q k = s q k) : zEM E K S := fun t p U ht hp h15 hU => h t p U ht hp h15 (fun q k hq => (hU q k hq).trans (hS q k hq))
theorem mOk.fr {E : zEv} {K M : Nat} {s S : zMem} {T U : zT} (h : mOk E K M s T) (hr : rM S U) (hb : tBd M U) (h3 : U 9 3 = T 9 3) (hf : ∀ q k, (q = 56 ∨ q = 57) → S q k = s q k) : mOk E K M S U := ⟨hr, hb, by rw [h3]; exact h.2.2.1, h.2.2.2.of hf⟩
theorem rM.of {s S : zMem} {T : zT} (h : rM s T) (hs : ∀ a k, (a = 47 ∧ (k = 0 ∨ k = 8 ∨ k = 9 ∨ k = 15)) ∨ (48 ≤ a ∧ a ≤ 54) → S a k = s a k) : rM S T := by
  intro j i hji
  rw [← h j i hji]
  apply hs
  unfold tIn at hji
  unfold mA mI
  split
  · omega
  · split
    · omega
    · split
      · omega
      · have : i < 4 := by omega
        rcases (by omega : i = 0 ∨ i = 1 ∨ i = 2 ∨ i = 3) with rfl | rfl | rfl | rfl <;> simp
theorem n3m (h : Nat) : (3 : Int32) * nI h = nI (3 * h) := by rw [← zn3, nI_mul]
theorem n3m1 (h : Nat) : (3 : Int32) * nI h + 1 = nI (3 * h + 1) := by rw [n3m, nI_1]
theorem n3m2 (h : Nat) : (3 : Int32) * nI h + 2 = nI (3 * h + 2) := by rw [n3m, ← zn2, nI_add]
theorem rM.u0 {s : zMem} {T : zT} (h : rM s T) (i v : Nat) : rM (zUp s 50 (3 * i) (nI v)) (tU T 0 i v) := h.up (j := 0) (by omega) i v
theorem rM.u1 {s : zMem} {T : zT} (h : rM s T) (i v : Nat) : rM (zUp s 50 (3 * i + 1) (nI v)) (tU T 1 i v) := h.up (j := 1) (by omega) i v
theorem rM.u2 {s : zMem} {T : zT} (h : rM s T) (i v : Nat) : rM (zUp s 50 (3 * i + 2) (nI v)) (tU T 2 i v) := h.up (j := 2) (by omega) i v
theorem rM.u7 {s : zMem} {T : zT} (h : rM s T) (k v : Nat) : rM (zUp s 53 k (nI v)) (tU T 7 k v) := h.up (j := 7) (by omega) k v
theorem m_asks {E : zEv} {K M p h c : Nat} {T : zT} {s : zMem} (o : mOk E K M s T) (hp : p < 3) (hh : h < T 9 0) : ∃ S, f_X7_asksOf (nI p) (nI h) (nI c) s = some (nI (sayT E p T h c), S) ∧ ∀ a k, a ≠ 66 → a ≠ 67 → S a k = s a k := by
  obtain ⟨hr, hb, hk, hE⟩ := id o
  have h6 : h < 6 := Nat.lt_of_lt_of_le hh hb.1
  have hz : zib (nI h) 6 = true := zib_nI h6 (by decide)
  have hz0 : zib (nI (3 * h)) 18 = true := zib_nI (by omega) (by decide)
  have hz1 : zib (nI (3 * h + 1)) 18 = true := zib_nI (by omega) (by decide)
  have hx : zix (nI h) = h := zix_nI (by omega)
  have hx0 : zix (nI (3 * h)) = 3 * h := zix_nI (by omega)
  have hx1 : zix (nI (3 * h + 1)) = 3 * h + 1 := zix_nI (by omega)
  obtain ⟨d0, d1, d2, d3⟩ := hr.c0
  obtain ⟨c0, c1, c2, c3, c4⟩ := hr.ch hh
  have key : ∀ S : zMem, (∀ a k, a ≠ 67 → S a k = s a k) → rM S T := fun S hS => hr.of (fun a k q => hS a k (by omega))
  have hgo : ∃ S, f_X7_asksOf (nI p) (nI h) (nI c) s = some (nI (sayT E p T h c), S) := by
    unfold f_X7_asksOf
    rw [n3m1, n3m, gd_t hz0, gd_t (c := zib 0 6) rfl, nm_eq, gd_t hz1, gd_t (c := zib 1 6) rfl, nm_eq, gd_t (c := zib 2 6) rfl, nm_eq, gd_t (c := zib 3 6) rfl, nm_eq, hx0, hx1, c0]
    have z0 : zix 0 = 0 := rfl
    have z1 : zix 1 = 1 := rfl
    have z2 : zix 2 = 2 := rfl
    have z3 : zix 3 = 3 := rfl
    have z4 : zix 4 = 4 := rfl
    have z5 : zix 5 = 5 := rfl
    rw [z0, z1, z2, z3, z4, z5]
    have b1 : zUp s 67 0 (nI (T 0 h)) 50 (3 * h + 1) = nI (T 1 h) := by rw [zUp_off (by omega), c1]
    rw [b1]
    have b2 : zUp (zUp s 67 0 (nI (T 0 h))) 67 1 (nI (T 1 h)) 47 9 = nI (T 9 2) := by rw [zUp_off (by omega), zUp_off (by omega), d2]
    rw [b2]
    have e4 : ∀ a k, a ≠ 67 → (zUp (zUp (zUp (zUp s 67 0 (nI (T 0 h))) 67 1 (nI (T 1 h))) 67 2 (nI (T 9 2))) 67 3 (nI c)) a k = s a k := by
      intro a k ha
      rw [zUp_off (Or.inl ha), zUp_off (Or.inl ha), zUp_off (Or.inl ha), zUp_off (Or.inl ha)]
    generalize hS4 : zUp (zUp (zUp (zUp s 67 0 (nI (T 0 h))) 67 1 (nI (T 1 h))) 67 2 (nI (T 9 2))) 67 3 (nI c) = S4 at e4 ⊢
    rw [m_owedBy (key S4 e4) hb (by omega), bd_s, gd_t (c := zib 4 6) rfl, nm_eq, gd_t hz, gd_t (c := zib 5 6) rfl, nm_eq, hx]
    have a0 : S4 67 0 = nI (T 0 h) := by rw [← hS4]; simp [zUp_at]
    have a1 : S4 67 1 = nI (T 1 h) := by rw [← hS4]; simp [zUp_at]
    have a2 : S4 67 2 = nI (T 9 2) := by rw [← hS4]; simp [zUp_at]
    have a3 : S4 67 3 = nI c := by rw [← hS4]; simp [zUp_at]
    have b5 : zUp S4 67 4 (nI (owesT T h)) 49 h = nI (T 4 h) := by rw [zUp_off (by omega), e4 _ _ (by omega), c4]
    rw [b5]
    obtain ⟨S', hS'⟩ := hE (T 9 3) p (zUp (zUp S4 67 4 (nI (owesT T h))) 67 5 (nI (T 4 h))) hk hp (by rw [zUp_off (by omega), zUp_off (by omega), e4 _ _ (by omega), d3]) (fun q k hq => by rw [zUp_off (by omega), zUp_off (by omega), e4 _ _ (by omega)])
    rw [hS', bd_s, k_within, bd_s, clamp_within]
    refine ⟨S', ?_⟩
    congr 3
    unfold sayT
    congr 2
  obtain ⟨S, hS⟩ := hgo
  exact ⟨S, hS, fun a k h4 h10 => fr_X7_asksOf a k (by omega) rfl _ S hS⟩
theorem m_grows {E : zEv} {K M h c : Nat} {T : zT} {s : zMem} (o : mOk E K M s T) (hh : h < T 9 0) (hc : c < 2 ^ 31) : ∃ S, f_X7_growsOf (nI h) (nI c) s = some (nI (growthN (T 3 h) (T 4 h) c (sayT E 0 T h c)), S) ∧ ∀ a k, a ≠ 66 → a ≠ 67 → S a k = s a k := by
  have h6 : h < 6 := Nat.lt_of_lt_of_le hh o.2.1.1
  have hz : zib (nI h) 6 = true := zib_nI h6 (by decide)
  have hx : zix (nI h) = h := zix_nI (by omega)
  have hq := o.1.ch hh
  have hbh := o.2.1.2.2.2.2.2.1 h hh
  obtain ⟨S, e, f⟩ := m_asks (p := 0) (c := c) o (by omega) hh
  refine ⟨S, ?_, f⟩
  rw [← k_growth (kd := T 3 h) (mo := T 4 h) (by omega) hc S]
  unfold f_X7_growsOf f_X1_growth
  rw [← zn0, e, bd_s, gd_t hz, nm_eq, hx, f 48 h (by omega) (by omega), f 49 h (by omega) (by omega), hq.2.2.2.1, hq.2.2.2.2]
  simp only [gd_t hz]
theorem m_cools {E : zEv} {K M h : Nat} {T : zT} {s : zMem} (o : mOk E K M s T) (hh : h < T 9 0) : ∃ S, f_X7_coolsOf (nI h) s = some (nI (coolN (T 3 h) (T 0 h) (sayT E 1 T h 0)), S) ∧ ∀ a k, a ≠ 66 → a ≠ 67 → S a k = s a k := by
  have h6 : h < 6 := Nat.lt_of_lt_of_le hh o.2.1.1
  have hz : zib (nI h) 6 = true := zib_nI h6 (by decide)
  have hx : zix (nI h) = h := zix_nI (by omega)
  have hz0 : zib (nI (3 * h)) 18 = true := zib_nI (by omega) (by decide)
  have hx0 : zix (nI (3 * h)) = 3 * h := zix_nI (by omega)
  have hq := o.1.ch hh
  have hbh := o.2.1.2.2.2.2.2.1 h hh
  obtain ⟨S, e, f⟩ := m_asks (p := 1) (c := 0) o (by omega) hh
  refine ⟨S, ?_, f⟩
  rw [← k_cooling (kd := T 3 h) (he := T 0 h) (by omega) (by omega) (by have := sayT_le E 1 T h 0; omega) S]
  unfold f_X7_coolsOf f_X1_cooling
  rw [← zn1, ← zn0, e, bd_s, n3m, gd_t hz0, nm_eq, gd_t hz, nm_eq, hx, hx0, f 48 h (by omega) (by omega), f 50 _ (by omega) (by omega), hq.2.2.2.1, hq.1]
theorem m_burns {E : zEv} {K M h : Nat} {T : zT} {s : zMem} (o : mOk E K M s T) (hh : h < T 9 0) : ∃ S, f_X7_burnsOf (nI h) s = some (nI (burnN (T 3 h) (T 4 h) (T 9 2) (sayT E 2 T h 0)), S) ∧ ∀ a k, a ≠ 66 → a ≠ 67 → S a k = s a k := by
  have h6 : h < 6 := Nat.lt_of_lt_of_le hh o.2.1.1
  have hz : zib (nI h) 6 = true := zib_nI h6 (by decide)
  have hx : zix (nI h) = h := zix_nI (by omega)
  have hq := o.1.ch hh
  have hbh := o.2.1.2.2.2.2.2.1 h hh
  have h2 := o.2.1.2.2.1
  have hM := o.2.1.2.2.2.2.1
  obtain ⟨S, e, f⟩ := m_asks (p := 2) (c := 0) o (by omega) hh
  refine ⟨S, ?_, f⟩
  rw [← k_burning (kd := T 3 h) (mo := T 4 h) (ni := T 9 2) (by omega) (by omega) (by omega) S]
  unfold f_X7_burnsOf f_X1_burning
  rw [← zn2, ← zn0, e, bd_s, gd_t hz, nm_eq, hx, f 48 h (by omega) (by omega), f 49 h (by omega) (by omega), f 47 9 (by omega) (by omega), hq.2.2.2.1, hq.2.2.2.2, o.1.c0.2.2.1]
  simp only [gd_t hz]
  have er : zrem (nI (T 9 2)) (nI 2) = nI (T 9 2 % 2) := pk_rem (d := 2) (by omega) (by omega) (by omega)
  rw [er]
  rcases (by omega : T 9 2 % 2 = 0 ∨ T 9 2 % 2 = 1) with q | q
  · rw [q]; rfl
  · rw [q]; rfl
theorem m_cool {E : zEv} {K M h : Nat} {s : zMem} {T : zT} (o : mOk E K M s T) (hh : h < T 9 0) : ∃ S, f_X7_hearth_97 (nI h) s = some ((), S) ∧ mOk E K M S (coolT E h T) := by
  obtain ⟨hr, hb, h3, hE⟩ := id o
  have h6 := hb.1
  have hz0 : zib (nI (3 * h)) 18 = true := zib_nI (by omega) (by decide)
  have hx0 : zix (nI (3 * h)) = 3 * h := zix_nI (by omega)
  have hc := hr.ch hh
  have hbh := hb.2.2.2.2.2.1 h hh
  obtain ⟨S1, e1, f1⟩ := m_cools o hh
  have hn := coolN_le (kd := T 3 h) (he := T 0 h) (sayT_le E 1 T h 0) hbh.1
  refine ⟨zUp S1 50 (3 * h) (nI (T 0 h - coolN (T 3 h) (T 0 h) (sayT E 1 T h 0))), ?_, ?_⟩
  · unfold f_X7_hearth_97
    rw [n3m, gd_t hz0, e1, bd_s, nm_eq, hx0, hc.1]
    have hm := nI_subm (a := T 0 h) (b := coolN (T 3 h) (T 0 h) (sayT E 1 T h 0)) (by omega) (by omega)
    generalize coolN (T 3 h) (T 0 h) (sayT E 1 T h 0) = q at hm hn ⊢
    by_cases c : q ≤ T 0 h
    · rw [nI_sub c, if_pos (nI_pos' (by omega)), gd_t hz0, nm_eq]
    · have l : nI (T 0 h) - nI q < 0 := pk_sneg (by omega) (by omega)
      rw [if_neg (Int32.not_le.mpr l), gd_t hz0, nm_eq, show T 0 h - q = 0 by omega, zn0]
  · exact o.fr ((hr.of (S := S1) (fun a q hq => f1 a q (by omega) (by omega))).u0 h _) (coolT_bd hb hh) (tU_off (by omega)) (fun q i hq => by rw [zUp_off (by omega)]; exact f1 q i (by omega) (by omega))
theorem m_warm {E : zEv} {K M h : Nat} {s : zMem} {T : zT} (o : mOk E K M s T) (hh : h < T 9 0) : ∃ S, f_X7_hearth (nI h) s = some ((), S) ∧ mOk E K M S (warm1 E h T) := by
  obtain ⟨hr, hb, h3, hE⟩ := id o
  have h6 := hb.1
  have hz0 : zib (nI (3 * h)) 18 = true := zib_nI (by omega) (by decide)
  have hx0 : zix (nI (3 * h)) = 3 * h := zix_nI (by omega)
  have hz1 : zib (nI (3 * h + 1)) 18 = true := zib_nI (by omega) (by decide)
  have hx1 : zix (nI (3 * h + 1)) = 3 * h + 1 := zix_nI (by omega)
  have hz2 : zib (nI (3 * h + 2)) 18 = true := zib_nI (by omega) (by decide)
  have hx2 : zix (nI (3 * h + 2)) = 3 * h + 2 := zix_nI (by omega)
  have hc := hr.ch hh
  have hbh := hb.2.2.2.2.2.1 h hh
  have h2 := hb.2.2.1
  have hM := hb.2.2.2.2.1
  unfold f_X7_hearth warm1
  rw [n3m2, n3m1, n3m, gd_t hz2, hx2, hc.2.2.1, zif_le0 (by omega)]
  by_cases q : T 2 h = 0
  · rw [if_pos q, if_pos q, gd_t hz1, hx1, hc.2.1, zif_le0 (by omega)]
    by_cases q1 : T 1 h = 0
    · rw [if_pos q1, if_pos q1]
      exact m_cool o hh
    · rw [if_neg q1, if_neg q1]
      obtain ⟨S1, e1, f1⟩ := m_burns o hh
      have hn := burnN_le (kd := T 3 h) (ni := T 9 2) (sayT_le E 2 T h 0) hbh.2.2.2.2
      have r1 := (hr.of (S := S1) (fun a q hq => f1 a q (by omega) (by omega))).u0 h (min 9999 (T 0 h + burnN (T 3 h) (T 4 h) (T 9 2) (sayT E 2 T h 0)))
      have hc1 := r1.ch (i := h) (by rw [tU_off (by omega)]; exact hh)
      have r2 := r1.u1 h (T 1 h - 1)
      have o2 : mOk E K M _ (burnT E h T) := o.fr r2 (burnT_bd hb hh) (by unfold burnT; rw [tU_off (by omega), tU_off (by omega)]) (fun q i hq => by rw [zUp_off (by omega), zUp_off (by omega)]; exact f1 q i (by omega) (by omega))
      obtain ⟨S, e, o3⟩ := m_cool o2 (h := h) (by unfold burnT; rw [tU_off (by omega), tU_off (by omega)]; exact hh)
      refine ⟨S, ?_, o3⟩
      rw [e1, bd_s, gd_t hz0, hx0, f1 50 _ (by omega) (by omega), hc.1, nI_add, k_within, bd_s, within_nI (by omega), gd_t hz0, nm_eq, gd_t hz1, gd_t hz1]
      rw [hc1.2.1, tU_off (by omega), ← zn1, nI_sub (by omega), nm_eq]
      exact e
  · rw [if_neg q, if_neg q, gd_t hz2, gd_t hz2, ← zn1, nI_sub (by omega), nm_eq, gd_t hz0, nm_eq, hx0]
    exact ⟨_, rfl, o.fr ((hr.u2 h (T 2 h - 1)).u0 h 0) ((hb.up (j := 2) (by omega) (by omega)).up (by omega) (by omega)) (by rw [tU_off (by omega), tU_off (by omega)]) (fun q i hq => by rw [zUp_off (by omega), zUp_off (by omega)])⟩
def shN (i N : Nat) (s : zMem) : zMem := fun a q => if 51 ≤ a ∧ a ≤ 54 ∧ i ≤ q ∧ q < N then s a (q + 1) else s a q
theorem m_dropL {N : Nat} {c : zMem → Option (Unit × zMem)} (hN : N ≤ 9) : ∀ (n i : Nat) (s : zMem), s 47 8 = nI (N + 1) → i ≤ N → N - i < n → f_X7_drops_2 c n (nI i) s = c (shN i N s) := by
  intro n
  induction n with
  | zero => intro i s _ _ h; omega
  | succ n ih =>
    intro i s e hi hn
    rw [f_X7_drops_2, e, nI_1]
    by_cases q : N ≤ i
    · rw [if_pos (nI_le (by omega) (by omega))]
      congr 1
      funext a k
      unfold shN
      rw [if_neg (by omega)]
    · rw [if_neg (nI_ge (by omega) (by omega))]
      have g0 : zib (nI i) 10 = true := zib_nI (by omega) (by decide)
      have g1 : zib (nI (i + 1)) 10 = true := zib_nI (by omega) (by decide)
      have x0 : zix (nI i) = i := zix_nI (by omega)
      have x1 : zix (nI (i + 1)) = i + 1 := zix_nI (by omega)
      simp only [gd_t g0, gd_t g1, nm_eq, x0, x1]
      rw [ih (i + 1) _ (by rw [zUp_off (by omega), zUp_off (by omega), zUp_off (by omega), zUp_off (by omega)]; exact e) (by omega) (by omega)]
      congr 1
      funext a k
      unfold shN
      by_cases c1 : 51 ≤ a ∧ a ≤ 54
      · by_cases c2 : k = i
        · subst c2
          rw [if_neg (by omega), if_pos (by omega)]
          rcases (by omega : a = 51 ∨ a = 52 ∨ a = 53 ∨ a = 54) with rfl | rfl | rfl | rfl <;> simp [zUp_at]
        · by_cases c3 : i + 1 ≤ k ∧ k < N
          · rw [if_pos (by omega), if_pos (by omega), zUp_off (by omega), zUp_off (by omega), zUp_off (by omega), zUp_off (by omega)]
          · rw [if_neg (by omega), if_neg (by omega), zUp_off (by omega), zUp_off (by omega), zUp_off (by omega), zUp_off (by omega)]
      · rw [if_neg (by omega), if_neg (by omega), zUp_off (by omega), zUp_off (by omega), zUp_off (by omega), zUp_off (by omega)]
theorem m_drop {E : zEv} {K M k : Nat} {s : zMem} {T : zT} (h : mOk E K M s T) (hk : k < T 9 1) : ∃ S, f_X7_drops (nI k) s = some ((), S) ∧ mOk E K M S (dropT k T) := by
  obtain ⟨hr, hb, h3, hE⟩ := id h
  have h10 := hb.2.1
  have e : f_X7_drops (nI k) s = some ((), zUp (shN k (T 9 1 - 1) s) 47 8 (nI (T 9 1 - 1))) := by
    unfold f_X7_drops
    rw [m_dropL (N := T 9 1 - 1) (by omega) zN k s (by rw [hr.c0.2.1, show T 9 1 - 1 + 1 = T 9 1 by omega]) (by omega) (by unfold zN; omega)]
    have : shN k (T 9 1 - 1) s 47 8 - 1 = nI (T 9 1 - 1) := by
      unfold shN
      rw [if_neg (by omega), hr.c0.2.1, ← zn1, nI_sub (by omega)]
    rw [this, nm_eq]
  refine ⟨_, e, h.fr ?_ (dropT_bd hb hk) dropT_9.2.2.2 (fun q i hq => by rw [zUp_off (by omega)]; unfold shN; rw [if_neg (by omega)])⟩
  intro j i hji
  obtain ⟨d0, d1, d2, d3⟩ := dropT_9 (k := k) (T := T)
  rcases hji with ⟨hj, hi⟩ | ⟨hj, hj2, hi⟩ | ⟨rfl, hi⟩
  · rw [d0] at hi
    have := hr j i (Or.inl ⟨hj, hi⟩)
    have ha : mA j ≠ 47 ∧ (mA j < 51) := by unfold mA; split <;> omega
    rw [zUp_off (by omega)]
    unfold shN dropT
    rw [if_neg (by omega), if_neg (by omega), if_neg (by omega), this]
  · rw [d1] at hi
    have t1 := hr j i (Or.inr (Or.inl ⟨hj, hj2, by omega⟩))
    have t2 := hr j (i + 1) (Or.inr (Or.inl ⟨hj, hj2, by omega⟩))
    have ea : mA j = 46 + j := by unfold mA; rw [if_neg (by omega), if_neg (by omega), if_pos (by omega)]
    have ei : ∀ i, mI j i = i := fun i => by unfold mI; rw [if_neg (by omega), if_pos (by omega)]
    rw [ea, ei] at t1 t2 ⊢
    rw [zUp_off (by omega)]
    unfold shN dropT
    by_cases c : k ≤ i
    · rw [if_pos (by omega), if_pos (by omega), t2]
    · rw [if_neg (by omega), if_neg (by omega), if_neg (by omega), t1]
  · have e9 : ∀ q, shN k (T 9 1 - 1) s 47 q = s 47 q := fun q => by unfold shN; rw [if_neg (by omega)]
    rcases (by omega : i = 0 ∨ i = 1 ∨ i = 2 ∨ i = 3) with rfl | rfl | rfl | rfl
    · rw [d0]; show zUp _ 47 8 _ 47 0 = _; rw [zUp_off (by omega), e9]; exact hr.c0.1
    · rw [d1]; exact zUp_hit _ _ _ _
    · rw [d2]; show zUp _ 47 8 _ 47 9 = _; rw [zUp_off (by omega), e9]; exact hr.c0.2.2.1
    · rw [d3]; show zUp _ 47 8 _ 47 15 = _; rw [zUp_off (by omega), e9]; exact hr.c0.2.2.2
theorem m_moves {E : zEv} {K M g t c : Nat} {s : zMem} {T : zT} (h : mOk E K M s T) (hg : g < T 9 0) (ht : t < T 9 0) (hc : c ≤ T 0 g) : ∃ S, f_X7_moves (nI g) (nI t) (nI c) s = some ((), S) ∧ mOk E K M S (passT g t c T) := by
  obtain ⟨hr, hb, h3, hE⟩ := id h
  have h6 := hb.1
  have hbg := hb.2.2.2.2.2.1 _ hg
  have hgg := hr.ch hg
  have r1 := hr.u0 g (T 0 g - c)
  have ht1 := r1.ch (i := t) (by rw [tU_off (by omega)]; exact ht)
  have b1 : tU T 0 g (T 0 g - c) 0 t ≤ 9999 := by
    have := hb.2.2.2.2.2.1 _ ht
    unfold tU
    split <;> omega
  have e : f_X7_moves (nI g) (nI t) (nI c) s = some ((), zUp (zUp s 50 (3 * g) (nI (T 0 g - c))) 50 (3 * t) (nI (min 9999 (tU T 0 g (T 0 g - c) 0 t + c)))) := by
    have gg : zib (nI (3 * g)) 18 = true := zib_nI (by omega) (by decide)
    have gt : zib (nI (3 * t)) 18 = true := zib_nI (by omega) (by decide)
    have xg : zix (nI (3 * g)) = 3 * g := zix_nI (by omega)
    have xt : zix (nI (3 * t)) = 3 * t := zix_nI (by omega)
    unfold f_X7_moves
    rw [n3m, n3m, gd_t gg, gd_t gg, xg, hgg.1, nI_sub hc, nm_eq, gd_t gt, xt, ht1.1, nI_add, k_within, bd_s, within_nI (by omega), gd_t gt, nm_eq]
  refine ⟨_, e, h.fr (r1.u0 t _) (passT_bd hb hg) ?_ (fun q k hq => by rw [zUp_off (by omega), zUp_off (by omega)])⟩
  show tU (tU T 0 g _) 0 t _ 9 3 = _
  rw [tU_off (by omega), tU_off (by omega)]
theorem m_growsL {E : zEv} {K M : Nat} {c : Int32 → zMem → Option (Int32 × zMem)} {x : Int32} : ∀ (n k : Nat) (s : zMem) (T : zT), mOk E K M s T → k ≤ T 9 1 → T 9 1 - k < n → ∃ S, f_X7_nightOf_4 c n x (nI k) s = c x S ∧ mOk E K M S (growN E (T 9 1 - k) k T) := by
  intro n
  induction n with
  | zero => intro k s T _ _ h; omega
  | succ n ih =>
    intro k s T h hk hn
    have hb := h.2.1
    have h10 := hb.2.1
    rw [f_X7_nightOf_4, h.1.c0.2.1]
    by_cases q : T 9 1 ≤ k
    · rw [if_pos (nI_le q (by omega)), show T 9 1 - k = 0 by omega]
      exact ⟨s, rfl, h⟩
    · rw [if_neg (nI_ge (by omega) (by omega))]
      have hk : k < T 9 1 := by omega
      have hl := h.1.cl hk
      have hbk := hb.2.2.2.2.2.2 k hk
      have hbh := hb.2.2.2.2.2.1 _ hbk.2.1
      have g10 : zib (nI k) 10 = true := zib_nI (by omega) (by decide)
      have x10 : zix (nI k) = k := zix_nI (by omega)
      obtain ⟨S1, e1, f1⟩ := m_grows (c := T 7 k) h hbk.2.1 (by omega)
      have hn2 := growthN_le (kd := T 3 (T 6 k)) (c := T 7 k) (sayT_le E 0 T (T 6 k) (T 7 k)) hbh.2.2.2.2
      rw [gd_t g10, gd_t g10, gd_t g10, x10, hl.2.1, hl.2.2.1, e1, bd_s, nI_add, k_within, bd_s, within_nI (by omega), gd_t g10, nm_eq, nm_eq, nI_1]
      have o1 : mOk E K M (zUp S1 53 k _) (grow1 E k T) := h.fr ((h.1.of (S := S1) (fun a q hq => f1 a q (by omega) (by omega))).u7 k _) (grow1_bd hb) (tU_off (by omega)) (fun q i hq => by rw [zUp_off (by omega)]; exact f1 q i (by omega) (by omega))
      have e9 : grow1 E k T 9 1 = T 9 1 := tU_off (by omega)
      obtain ⟨S, e2, h2⟩ := ih (k + 1) _ (grow1 E k T) o1 (by rw [e9]; omega) (by rw [e9]; omega)
      refine ⟨S, e2, ?_⟩
      rw [e9] at h2
      rw [show T 9 1 - k = (T 9 1 - (k + 1)) + 1 by omega]
      exact h2
theorem m_endL {E : zEv} {K M : Nat} {c : Int32 → zMem → Option (Int32 × zMem)} : ∀ (n m k f : Nat) (s : zMem) (T : zT), mOk E K M s T → k + m = T 9 1 → m < n → ∃ S, f_X7_nightOf_56 c n (nI f) (nI k) s = c (nI (endT m k f T).1) S ∧ mOk E K M S (endT m k f T).2 := by
  intro n
  induction n with
  | zero => intro m k f s T _ _ h; omega
  | succ n ih =>
    intro m k f s T h hm hn
    have hb := h.2.1
    have h10 := hb.2.1
    rw [f_X7_nightOf_56, h.1.c0.2.1]
    cases m with
    | zero => rw [if_pos (nI_le (by omega) (by omega))]; exact ⟨s, rfl, h⟩
    | succ m =>
      have hk : k < T 9 1 := by omega
      have hl := h.1.cl hk
      have hbk := hb.2.2.2.2.2.2 k hk
      have hbh := hb.2.2.2.2.2.1 _ hbk.2.1
      have hh := h.1.ch hbk.2.1
      have h2 := hb.2.2.1
      have hM := hb.2.2.2.2.1
      have h6 := hb.1
      have g0 : zib (nI k) 10 = true := zib_nI (by omega) (by decide)
      have x0 : zix (nI k) = k := zix_nI (by omega)
      have g3 : zib (nI (3 * T 6 k)) 18 = true := zib_nI (by omega) (by decide)
      have g32 : zib (nI (3 * T 6 k + 2)) 18 = true := zib_nI (by omega) (by decide)
      have x3 : zix (nI (3 * T 6 k)) = 3 * T 6 k := zix_nI (by omega)
      have x32 : zix (nI (3 * T 6 k + 2)) = 3 * T 6 k + 2 := zix_nI (by omega)
      rw [if_neg (nI_ge (by omega) (by omega)), gd_t g0, x0, hl.2.2.2, h.1.c0.2.2.1, endT]
      by_cases q : T 9 2 < T 8 k
      · rw [if_neg (nI_ge q (by omega)), if_pos q, nm_eq, nI_1]
        exact ih m (k + 1) f s T h (by omega) (by omega)
      · rw [if_pos (nI_le (by omega) (by omega)), if_neg q, gd_t g0, nm_eq, hl.2.1, n3m2, n3m, gd_t g3, gd_t g0, x3, hh.1, hl.2.2.1]
        by_cases d : T 7 k ≤ T 0 (T 6 k)
        · rw [if_neg (nI_nlt d (by omega)), if_pos d, gd_t g0, gd_t g0, hl.1]
          obtain ⟨S1, e1, o1⟩ := m_moves h hbk.2.1 hbk.1 d
          obtain ⟨S2, e2, o2⟩ := m_drop o1 (k := k) (by rw [passT_1.1]; exact hk)
          rw [e1, bd_s, e2, bd_s]
          exact ih m k f S2 _ o2 (by rw [dropT_9.2.1, passT_1.1]; omega) (by omega)
        · rw [if_pos (nI_lt (by omega) (by omega)), if_neg d, gd_t g32, x32, show (20 : Int32) = nI 20 from rfl, nm_eq, nI_shl _ (by omega), nI_or, nm_eq]
          have o1 : mOk E K M (zUp s 50 (3 * T 6 k + 2) (nI 20)) (tU T 2 (T 6 k) 20) := h.fr (h.1.u2 (T 6 k) 20) (hb.up (by omega) (by omega)) (tU_off (by omega)) (fun q i hq => zUp_off (by omega))
          obtain ⟨S2, e2, o2⟩ := m_drop o1 (k := k) (by rw [tU_off (by omega)]; exact hk)
          rw [e2, bd_s]
          exact ih m k _ S2 _ o2 (by rw [dropT_9.2.1, tU_off (by omega)]; omega) (by omega)
theorem m_warms {E : zEv} {K M : Nat} {c : Int32 → zMem → Option (Int32 × zMem)} {x : Int32} : ∀ (n h : Nat) (s : zMem) (T : zT), mOk E K M s T → h ≤ T 9 0 → T 9 0 - h < n → ∃ S, f_X7_nightOf_155 c n x (nI h) s = c x S ∧ mOk E K M S (warmN E (T 9 0 - h) h T) := by
  intro n
  induction n with
  | zero => intro k s T _ _ h; omega
  | succ n ih =>
    intro h s T o hk hn
    have h6 := o.2.1.1
    rw [f_X7_nightOf_155, o.1.c0.1]
    by_cases q : T 9 0 ≤ h
    · rw [if_pos (nI_le q (by omega)), show T 9 0 - h = 0 by omega]
      exact ⟨s, rfl, o⟩
    · rw [if_neg (nI_ge (by omega) (by omega))]
      obtain ⟨S1, e1, o1⟩ := m_warm o (by omega : h < T 9 0)
      rw [e1, bd_s, nm_eq, nI_1]
      obtain ⟨S, e2, o2⟩ := ih (h + 1) S1 (warm1 E h T) o1 (by rw [warm1_9]; omega) (by rw [warm1_9]; omega)
      refine ⟨S, e2, ?_⟩
      rw [warm1_9] at o2
      rw [show T 9 0 - h = (T 9 0 - (h + 1)) + 1 by omega]
      exact o2
theorem rM.u9 {s : zMem} {T : zT} (h : rM s T) (v : Nat) : rM (zUp s 47 9 (nI v)) (tU T 9 2 v) := by
  intro x y hxy
  have hxy : tIn T x y := by
    unfold tIn at hxy ⊢
    rw [tU_off (by omega), tU_off (by omega)] at hxy
    exact hxy
  have h1 := h x y hxy
  rw [zUp_at]
  unfold tU
  have hx : x < 9 ∨ x = 9 := by unfold tIn at hxy; omega
  rcases hx with hx | rfl
  · have : mA x ≠ 47 := by unfold mA; split <;> (try split) <;> (try split) <;> omega
    rw [if_neg (by omega), if_neg (by omega), h1]
  · by_cases q : y = 2
    · subst q
      rw [if_pos ⟨rfl, rfl⟩, if_pos ⟨rfl, rfl⟩]
    · rw [if_neg ?_, if_neg (by omega), h1]
      unfold mI
      rw [if_neg (by omega), if_neg (by omega)]
      unfold tIn at hxy
      split
      · omega
      · split <;> omega
theorem m_night {E : zEv} {K M : Nat} {s : zMem} {T : zT} (o : mOk E K M s T) (hM : M < 100000) : ∃ S, f_X7_nightOf s = some (nI (nightT E T).1, S) ∧ mOk E K (M + 1) S (nightT E T).2 := by
  unfold f_X7_nightOf nightT
  have h10 := o.2.1.2.1
  obtain ⟨S1, e1, o1⟩ := m_growsL (x := 0) (c := fun x10 s11 => f_X7_nightOf_56 (fun x25 s26 => f_X7_nightOf_155 (fun x33 s34 => nm (zUp s34 47 9 ((s34 47 9) + 1)) fun s35 => some (x33, s35)) zN x25 0 s26) zN x10 0 s11) zN 0 s T o (by omega) (by unfold zN; omega)
  rw [zn0] at e1
  rw [e1]
  dsimp only
  rw [Nat.sub_zero] at o1
  obtain ⟨S2, e2, o2⟩ := m_endL (c := fun x25 s26 => f_X7_nightOf_155 (fun x33 s34 => nm (zUp s34 47 9 ((s34 47 9) + 1)) fun s35 => some (x33, s35)) zN x25 0 s26) zN (T 9 1) 0 0 S1 _ o1 (by rw [growN_9]; omega) (by unfold zN; omega)
  rw [zn0] at e2
  rw [e2]
  have h9 := endT_9 (T 9 1) 0 0 (growN E (T 9 1) 0 T)
  rw [growN_9, growN_9, growN_9] at h9
  obtain ⟨S3, e3, o3⟩ := m_warms (c := fun x33 s34 => nm (zUp s34 47 9 ((s34 47 9) + 1)) fun s35 => some (x33, s35)) (x := nI (endT (T 9 1) 0 0 (growN E (T 9 1) 0 T)).1) zN 0 S2 _ o2 (by omega) (by have := o2.2.1.1; unfold zN; omega)
  rw [zn0] at e3
  rw [e3]
  rw [h9.1] at o3
  rw [Nat.sub_zero] at o3
  rw [nm_eq, o3.1.c0.2.2.1, nI_1]
  refine ⟨_, rfl, o3.1.u9 _, o3.2.1.night hM, ?_, o3.2.2.2.of (fun q i hq => zUp_off (by omega))⟩
  rw [tU_off (by omega)]
  exact o3.2.2.1

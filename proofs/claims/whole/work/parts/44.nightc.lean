theorem zif_le0 {m : Nat} (h : m < 2 ^ 31) {α : Sort _} (A B : α) : (if nI m ≤ 0 then A else B) = if m = 0 then A else B := by
  have e := nI_le0 h
  by_cases q : m = 0
  · rw [if_pos q, if_pos (e.mpr q)]
  · rw [if_neg q, if_neg (fun r => q (e.mp r))]
theorem kOk.fr {E : zEv} {K M w : Nat} {s S : zMem} {T U : zT} (h : kOk E K M w s T) (hr : rC w S U) (hb : tBd M U) (h3 : U 9 3 = T 9 3) (hf : ∀ q k, (q = 1 ∨ q = 2 ∨ q = 3) → S q k = s q k) : kOk E K M w S U := ⟨h.1, hr, hb, by rw [h3]; exact h.2.2.2.1, h.2.2.2.2.of hf⟩
theorem k_pass {E : zEv} {K M w g t c : Nat} {s : zMem} {T : zT} (h : kOk E K M w s T) (hg : g < T 9 0) (ht : t < T 9 0) (hc : c ≤ T 0 g) : ∃ S, f_X5_pass w (nI g) (nI t) (nI c) s = some ((), S) ∧ kOk E K M w S (passT g t c T) := by
  obtain ⟨hw, hr, hb, h3, hE⟩ := id h
  have h6 := hb.1
  have hbg := hb.2.2.2.2.2.1 _ hg
  have hgg := hr.ch hg
  have r1 := hr.up (j := 0) (by omega) g (T 0 g - c)
  have ht1 := r1.ch (i := t) (by rw [tU_off (by omega)]; exact ht)
  have b1 : tU T 0 g (T 0 g - c) 0 t ≤ 9999 := by
    have := hb.2.2.2.2.2.1 _ ht
    unfold tU
    split <;> omega
  have e : f_X5_pass w (nI g) (nI t) (nI c) s = some ((), zUp (zUp s (w + (0 + 1)) g (nI (T 0 g - c))) (w + (0 + 1)) t (nI (min 9999 (tU T 0 g (T 0 g - c) 0 t + c)))) := by
    have gg : zib (nI g) 6 = true := zib_nI (by omega) (by decide)
    have gt : zib (nI t) 6 = true := zib_nI (by omega) (by decide)
    have xg : zix (nI g) = g := zix_nI (by omega)
    have xt : zix (nI t) = t := zix_nI (by omega)
    unfold f_X5_pass
    rw [gd_t gg, gd_t gg, xg, hgg.1, nI_sub hc, nm_eq, gd_t gt, gd_t gt, xt, ht1.1, nI_add, show (9999 : Int32) = nI 9999 from rfl, zmin_nI (by omega) (by omega), nm_eq]
  refine ⟨_, e, h.fr (r1.up (by omega) t _) (passT_bd hb hg) ?_ (fun q k hq => by rw [zUp_off (by omega), zUp_off (by omega)])⟩
  show tU (tU T 0 g _) 0 t _ 9 3 = _
  rw [tU_off (by omega), tU_off (by omega)]
def shM (w i N : Nat) (s : zMem) : zMem := fun a q => if w + 6 ≤ a ∧ a ≤ w + 9 ∧ i ≤ q ∧ q < N then s a (q + 1) else s a q
theorem k_dropL {w N : Nat} (hN : N ≤ 9) : ∀ (n i : Nat) (s : zMem), s w 10 = nI N → i ≤ N → N - i < n → f_X5_drop_12 w n (nI i) s = some ((), shM w i N s) := by
  intro n
  induction n with
  | zero => intro i s _ _ h; omega
  | succ n ih =>
    intro i s e hi hn
    rw [f_X5_drop_12, e]
    by_cases q : N ≤ i
    · rw [if_pos (nI_le q (by omega))]
      congr 2
      funext a k
      unfold shM
      rw [if_neg (by omega)]
    · rw [if_neg (nI_ge (by omega) (by omega))]
      have g0 : zib (nI i) 10 = true := zib_nI (by omega) (by decide)
      have g1 : zib (nI (i + 1)) 10 = true := zib_nI (by omega) (by decide)
      have x0 : zix (nI i) = i := zix_nI (by omega)
      have x1 : zix (nI (i + 1)) = i + 1 := zix_nI (by omega)
      simp only [nI_1, gd_t g0, gd_t g1, nm_eq, x0, x1]
      rw [ih (i + 1) _ (by rw [zUp_off (by omega), zUp_off (by omega), zUp_off (by omega), zUp_off (by omega)]; exact e) (by omega) (by omega)]
      congr 2
      funext a k
      unfold shM
      by_cases c1 : w + 6 ≤ a ∧ a ≤ w + 9
      · by_cases c2 : k = i
        · subst c2
          rw [if_neg (by omega), if_pos (by omega)]
          rcases (by omega : a = w + 6 ∨ a = w + 7 ∨ a = w + 8 ∨ a = w + 9) with rfl | rfl | rfl | rfl <;> simp [zUp_at]
        · by_cases c3 : i + 1 ≤ k ∧ k < N
          · rw [if_pos (by omega), if_pos (by omega), zUp_off (by omega), zUp_off (by omega), zUp_off (by omega), zUp_off (by omega)]
          · rw [if_neg (by omega), if_neg (by omega), zUp_off (by omega), zUp_off (by omega), zUp_off (by omega), zUp_off (by omega)]
      · rw [if_neg (by omega), if_neg (by omega), zUp_off (by omega), zUp_off (by omega), zUp_off (by omega), zUp_off (by omega)]
theorem k_drop {E : zEv} {K M w k : Nat} {s : zMem} {T : zT} (h : kOk E K M w s T) (hk : k < T 9 1) : ∃ S, f_X5_drop w (nI k) s = some ((), S) ∧ kOk E K M w S (dropT k T) := by
  obtain ⟨hw, hr, hb, h3, hE⟩ := id h
  have h10 := hb.2.1
  have e1 : s w 10 - 1 = nI (T 9 1 - 1) := by rw [hr.c0.2.1, ← zn1, nI_sub (by omega)]
  have e : f_X5_drop w (nI k) s = some ((), shM w k (T 9 1 - 1) (zUp s w 10 (nI (T 9 1 - 1)))) := by
    unfold f_X5_drop
    rw [e1, nm_eq]
    exact k_dropL (by omega) zN k _ (zUp_hit _ _ _ _) (by omega) (by unfold zN; omega)
  refine ⟨_, e, h.fr ?_ (dropT_bd hb hk) dropT_9.2.2.2 (fun q i hq => by unfold shM; rw [if_neg (by omega), zUp_off (by omega)])⟩
  intro j i hji
  obtain ⟨d0, d1, d2, d3⟩ := dropT_9 (k := k) (T := T)
  rcases hji with ⟨hj, hi⟩ | ⟨hj, hj2, hi⟩ | ⟨rfl, hi⟩
  · rw [d0] at hi
    have := hr j i (Or.inl ⟨hj, hi⟩)
    unfold cA cI at this ⊢
    rw [if_pos (by omega)] at this ⊢
    rw [if_pos (by omega)] at this ⊢
    unfold shM dropT
    rw [if_neg (by omega), if_neg (by omega), if_neg (by omega), zUp_off (by omega), this]
  · rw [d1] at hi
    have t1 := hr j i (Or.inr (Or.inl ⟨hj, hj2, by omega⟩))
    have t2 := hr j (i + 1) (Or.inr (Or.inl ⟨hj, hj2, by omega⟩))
    unfold cA cI at t1 t2 ⊢
    rw [if_pos (by omega)] at t1 t2 ⊢
    rw [if_pos (by omega)] at t1 t2 ⊢
    unfold shM dropT
    by_cases c : k ≤ i
    · rw [if_pos (by omega), if_pos (by omega), zUp_off (by omega), t2]
    · rw [if_neg (by omega), if_neg (by omega), if_neg (by omega), zUp_off (by omega), t1]
  · have e9 : ∀ q, shM w k (T 9 1 - 1) (zUp s w 10 (nI (T 9 1 - 1))) w (9 + q) = zUp s w 10 (nI (T 9 1 - 1)) w (9 + q) := fun q => by unfold shM; rw [if_neg (by omega)]
    show shM w k (T 9 1 - 1) _ w (9 + i) = _
    rw [e9]
    rcases (by omega : i = 0 ∨ i = 1 ∨ i = 2 ∨ i = 3) with rfl | rfl | rfl | rfl
    · rw [zUp_off (by omega), d0]; exact hr.c0.1
    · rw [d1]; exact zUp_hit _ _ _ _
    · rw [zUp_off (by omega), d2]; exact hr.c0.2.2.1
    · rw [zUp_off (by omega), d3]; exact hr.c0.2.2.2
theorem k_canRepay {E : zEv} {K M w k : Nat} {s : zMem} {T : zT} (h : kOk E K M w s T) (hk : k < T 9 1) : f_X5_canRepay w (nI k) s = some (if T 7 k ≤ T 0 (T 6 k) then 1 else 0, s) := by
  obtain ⟨hw, hr, hb, h3, hE⟩ := id h
  have h10 := hb.2.1
  have h6 := hb.1
  have hbk := hb.2.2.2.2.2.2 k hk
  have hl := hr.cl hk
  have hh := hr.ch hbk.2.1
  have hbh := hb.2.2.2.2.2.1 _ hbk.2.1
  have g0 : zib (nI k) 10 = true := zib_nI (by omega) (by decide)
  have g6 : zib (nI (T 6 k)) 6 = true := zib_nI (by omega) (by decide)
  have x0 : zix (nI k) = k := zix_nI (by omega)
  have x6 : zix (nI (T 6 k)) = T 6 k := zix_nI (by omega)
  unfold f_X5_canRepay
  rw [gd_t g0, x0, hl.2.1, gd_t g6, gd_t g0, x6, hh.1, hl.2.2.1]
  by_cases q : T 7 k ≤ T 0 (T 6 k)
  · rw [if_pos q, if_neg (nI_nlt q (by omega))]
  · rw [if_neg q, if_pos (nI_lt (by omega) (by omega))]
theorem k_payBack {E : zEv} {K M w k : Nat} {s : zMem} {T : zT} (h : kOk E K M w s T) (hk : k < T 9 1) (hq : T 7 k ≤ T 0 (T 6 k)) : ∃ S, f_X5_payBack w (nI k) s = some ((), S) ∧ kOk E K M w S (passT (T 6 k) (T 5 k) (T 7 k) T) := by
  obtain ⟨hw, hr, hb, h3, hE⟩ := id h
  have h10 := hb.2.1
  have hbk := hb.2.2.2.2.2.2 k hk
  have hl := hr.cl hk
  have g0 : zib (nI k) 10 = true := zib_nI (by omega) (by decide)
  have x0 : zix (nI k) = k := zix_nI (by omega)
  obtain ⟨S, e, h1⟩ := k_pass h hbk.2.1 hbk.1 hq
  refine ⟨S, ?_, h1⟩
  unfold f_X5_payBack
  rw [gd_t g0, gd_t g0, gd_t g0, x0, hl.1, hl.2.1, hl.2.2.1, e, bd_s]
theorem passT_1 {g t c i : Nat} {T : zT} : passT g t c T 9 i = T 9 i ∧ passT g t c T 5 i = T 5 i ∧ passT g t c T 6 i = T 6 i ∧ passT g t c T 7 i = T 7 i ∧ passT g t c T 8 i = T 8 i := by
  unfold passT
  refine ⟨?_, ?_, ?_, ?_, ?_⟩ <;> rw [tU_off (by omega), tU_off (by omega)]
theorem endT_9 : ∀ (m k f : Nat) (T : zT), (endT m k f T).2 9 0 = T 9 0 ∧ (endT m k f T).2 9 2 = T 9 2 ∧ (endT m k f T).2 9 3 = T 9 3 := by
  intro m
  induction m with
  | zero => intro k f T; exact ⟨rfl, rfl, rfl⟩
  | succ m ih =>
    intro k f T
    rw [endT]
    split
    · exact ih _ _ _
    · split
      · obtain ⟨a, b, c⟩ := ih k f (dropT k (passT (T 6 k) (T 5 k) (T 7 k) T))
        rw [a, b, c, dropT_9.1, dropT_9.2.2.1, dropT_9.2.2.2, passT_1.1, passT_1.1, passT_1.1]
        exact ⟨rfl, rfl, rfl⟩
      · obtain ⟨a, b, c⟩ := ih k (f ||| 2 ^ T 6 k) (dropT k (tU T 2 (T 6 k) 20))
        rw [a, b, c, dropT_9.1, dropT_9.2.2.1, dropT_9.2.2.2, tU_off (by omega), tU_off (by omega), tU_off (by omega)]
        exact ⟨rfl, rfl, rfl⟩
theorem k_endL {E : zEv} {K M w : Nat} : ∀ (n m k f : Nat) (s : zMem) (T : zT), kOk E K M w s T → k + m = T 9 1 → m < n → ∃ S, f_X5_endDueLoans_9 w n (nI f) (nI k) (nI m) s = some (nI (endT m k f T).1, S) ∧ kOk E K M w S (endT m k f T).2 := by
  intro n
  induction n with
  | zero => intro m k f s T _ _ h; omega
  | succ n ih =>
    intro m k f s T h hm hn
    have hb := h.2.2.1
    have h10 := hb.2.1
    rw [f_X5_endDueLoans_9, zif_le0 (by omega : m < 2 ^ 31)]
    cases m with
    | zero => rw [if_pos rfl]; exact ⟨s, rfl, h⟩
    | succ m =>
      have hk : k < T 9 1 := by omega
      have hl := h.2.1.cl hk
      have hbk := hb.2.2.2.2.2.2 k hk
      have h2 := hb.2.2.1
      have hM := hb.2.2.2.2.1
      have h6 := hb.1
      have g0 : zib (nI k) 10 = true := zib_nI (by omega) (by decide)
      have x0 : zix (nI k) = k := zix_nI (by omega)
      have em : nI (m + 1) + (-1) = nI m := pk_m1 m
      rw [if_neg (by omega), gd_t g0, x0, hl.2.2.2, h.2.1.c0.2.2.1, endT]
      by_cases q : T 9 2 < T 8 k
      · rw [if_neg (nI_ge q (by omega)), if_pos q, nm_eq, nm_eq, nI_1, em]
        exact ih m (k + 1) f s T h (by omega) (by omega)
      · rw [if_pos (nI_le (by omega) (by omega)), if_neg q, k_canRepay h hk, bd_s, zif01]
        by_cases c : T 7 k ≤ T 0 (T 6 k)
        · rw [if_pos c, if_pos c]
          obtain ⟨S1, e1, o1⟩ := k_payBack h hk c
          obtain ⟨S2, e2, o2⟩ := k_drop o1 (k := k) (by rw [passT_1.1]; exact hk)
          rw [e1, bd_s, e2, bd_s, nm_eq, em]
          exact ih m k f S2 _ o2 (by rw [dropT_9.2.1, passT_1.1]; omega) (by omega)
        · rw [if_neg c, if_neg c]
          have g6 : zib (nI (T 6 k)) 6 = true := zib_nI (by omega) (by decide)
          have x6 : zix (nI (T 6 k)) = T 6 k := zix_nI (by omega)
          have r1 := h.2.1.up (j := 2) (by omega) (T 6 k) 20
          have o1 : kOk E K M w (zUp s (w + (2 + 1)) (T 6 k) (nI 20)) (tU T 2 (T 6 k) 20) := h.fr r1 (hb.up (by omega) (by omega)) (tU_off (by omega)) (fun q i hq => zUp_off (by have := h.1; omega))
          have hl1 := r1.cl (k := k) (by rw [tU_off (by omega)]; exact hk)
          obtain ⟨S2, e2, o2⟩ := k_drop o1 (k := k) (by rw [tU_off (by omega)]; exact hk)
          rw [gd_t g0, hl.2.1, gd_t g6, x6, show (20 : Int32) = nI 20 from rfl, nm_eq, gd_t g0, hl1.2.1, tU_off (by omega), nI_shl _ (by omega), nI_or, nm_eq, e2, bd_s, nm_eq, em]
          exact ih m k _ S2 _ o2 (by rw [dropT_9.2.1, tU_off (by omega)]; omega) (by omega)
theorem k_end {E : zEv} {K M w : Nat} {s : zMem} {T : zT} (h : kOk E K M w s T) : ∃ S, f_X5_endDueLoans w s = some (nI (endT (T 9 1) 0 0 T).1, S) ∧ kOk E K M w S (endT (T 9 1) 0 0 T).2 := by
  unfold f_X5_endDueLoans
  rw [nm_eq, h.2.1.c0.2.1]
  exact k_endL zN (T 9 1) 0 0 s T h (by omega) (by have := h.2.2.1.2.1; unfold zN; omega)
theorem nI_subm {a b : Nat} (ha : a < 2 ^ 30) (hb : b < 2 ^ 30) : zmax 0 (nI a - nI b) = nI (a - b) := by
  unfold zmax
  by_cases h : b ≤ a
  · rw [nI_sub h]
    by_cases h2 : a - b = 0
    · rw [h2]; rfl
    · have h3 : (0 : Int32) < nI (a - b) := nI_lt (a := 0) (b := a - b) (by omega) (by omega)
      rw [if_pos h3]
  · have : nI a - nI b < 0 := pk_sneg hb (by omega)
    rw [if_neg (fun q => Int32.lt_irrefl (Int32.lt_trans this q)), show a - b = 0 by omega]
    rfl
theorem coolN_le {kd he sa : Nat} (h : sa ≤ 99) (h2 : he ≤ 9999) : coolN kd he sa ≤ 20000 := by
  unfold coolN
  repeat' split
  all_goals omega
theorem coolT_bd {E : zEv} {M h : Nat} {T : zT} (hb : tBd M T) (hh : h < T 9 0) : tBd M (coolT E h T) := hb.up (by omega) (Or.inl ⟨rfl, by have := (hb.2.2.2.2.2.1 h hh).1; omega⟩)
theorem burnT_bd {E : zEv} {M h : Nat} {T : zT} (hb : tBd M T) (hh : h < T 9 0) : tBd M (burnT E h T) := (hb.up (j := 0) (by omega) (Or.inl ⟨rfl, Nat.min_le_left _ _⟩)).up (by omega) (Or.inr (Or.inl ⟨rfl, by have := (hb.2.2.2.2.2.1 h hh).2.1; omega⟩))
theorem k_cool {E : zEv} {K M w h : Nat} {s : zMem} {T : zT} (o : kOk E K M w s T) (hh : h < T 9 0) : ∃ S, f_X5_warm_93 w (nI h) s = some ((), S) ∧ kOk E K M w S (coolT E h T) := by
  obtain ⟨hw, hr, hb, h3, hE⟩ := id o
  have h6 := hb.1
  have g6 : zib (nI h) 6 = true := zib_nI (by omega) (by decide)
  have x6 : zix (nI h) = h := zix_nI (by omega)
  have hc := hr.ch hh
  have hbh := hb.2.2.2.2.2.1 h hh
  obtain ⟨S1, e1, f1⟩ := k_says (p := 1) (c := 0) (by omega) hr hb h3 hE (by omega) hh
  have hn := coolN_le (kd := T 3 h) (he := T 0 h) (sayT_le E 1 T h 0) hbh.1
  refine ⟨zUp S1 (w + (0 + 1)) h (nI (T 0 h - coolN (T 3 h) (T 0 h) (sayT E 1 T h 0))), ?_, ?_⟩
  · unfold f_X5_warm_93
    rw [gd_t g6, gd_t g6, ← zn1, ← zn0, e1, bd_s, x6, hc.2.2.2.1, hc.1, k_cooling (by omega) (by omega) (by have := sayT_le E 1 T h 0; omega), bd_s, gd_t g6, gd_t g6, f1 _ _ (by omega) (by omega), hc.1, zn0, nI_subm (by omega) (by omega), nm_eq]
  · exact o.fr ((hr.of (S := S1) (fun a q hq => f1 a q (by omega) (by omega))).up (by omega) h _) (coolT_bd hb hh) (tU_off (by omega)) (fun q i hq => by rw [zUp_off (by omega)]; exact f1 q i (by omega) (by omega))
theorem k_warm {E : zEv} {K M w h : Nat} {s : zMem} {T : zT} (o : kOk E K M w s T) (hh : h < T 9 0) : ∃ S, f_X5_warm w (nI h) s = some ((), S) ∧ kOk E K M w S (warm1 E h T) := by
  obtain ⟨hw, hr, hb, h3, hE⟩ := id o
  have h6 := hb.1
  have g6 : zib (nI h) 6 = true := zib_nI (by omega) (by decide)
  have x6 : zix (nI h) = h := zix_nI (by omega)
  have hc := hr.ch hh
  have hbh := hb.2.2.2.2.2.1 h hh
  have h2 := hb.2.2.1
  have hM := hb.2.2.2.2.1
  unfold f_X5_warm warm1
  rw [gd_t g6, x6, hc.2.2.1, zif_le0 (by omega)]
  by_cases q : T 2 h = 0
  · rw [if_pos q, if_pos q, gd_t g6, hc.2.1, zif_le0 (by omega)]
    by_cases q1 : T 1 h = 0
    · rw [if_pos q1, if_pos q1]
      exact k_cool o hh
    · rw [if_neg q1, if_neg q1, gd_t g6, gd_t g6]
      obtain ⟨S1, e1, f1⟩ := k_says (p := 2) (c := 0) (by omega) hr hb h3 hE (by omega) hh
      have hn := burnN_le (kd := T 3 h) (ni := T 9 2) (sayT_le E 2 T h 0) hbh.2.2.2.2
      have r1 := (hr.of (S := S1) (fun a q hq => f1 a q (by omega) (by omega))).up (j := 0) (by omega) h (min 9999 (T 0 h + burnN (T 3 h) (T 4 h) (T 9 2) (sayT E 2 T h 0)))
      have hc1 := r1.ch (i := h) (by rw [tU_off (by omega)]; exact hh)
      have r2 := r1.up (j := 1) (by omega) h (T 1 h - 1)
      have o2 : kOk E K M w _ (burnT E h T) := o.fr r2 (burnT_bd hb hh) (by unfold burnT; rw [tU_off (by omega), tU_off (by omega)]) (fun q i hq => by rw [zUp_off (by omega), zUp_off (by omega)]; exact f1 q i (by omega) (by omega))
      obtain ⟨S, e, o3⟩ := k_cool o2 (h := h) (by unfold burnT; rw [tU_off (by omega), tU_off (by omega)]; exact hh)
      refine ⟨S, ?_, o3⟩
      rw [← zn2, ← zn0, e1, bd_s, hc.2.2.2.1, hc.2.2.2.2, hr.c0.2.2.1, k_burning (by omega) (by omega) (by omega), bd_s, gd_t g6, gd_t g6, f1 (w + 1) h (by omega) (by omega), hc.1, nI_add, show (9999 : Int32) = nI 9999 from rfl, zmin_nI (by omega) (by omega), nm_eq, gd_t g6, gd_t g6]
      rw [hc1.2.1, tU_off (by omega), ← zn1, nI_sub (by omega), nm_eq]
      exact e
  · rw [if_neg q, if_neg q, gd_t g6, gd_t g6, ← zn1, nI_sub (by omega), nm_eq, gd_t g6, nm_eq]
    exact ⟨_, rfl, o.fr ((hr.up (j := 2) (by omega) h (T 2 h - 1)).up (j := 0) (by omega) h 0) ((hb.up (j := 2) (by omega) (by omega)).up (by omega) (by omega)) (by rw [tU_off (by omega), tU_off (by omega)]) (fun q i hq => by rw [zUp_off (by omega), zUp_off (by omega)])⟩
theorem warm1_9 {E : zEv} {h i : Nat} {T : zT} : warm1 E h T 9 i = T 9 i := by
  unfold warm1 coolT burnT
  split
  · split
    · exact tU_off (by omega)
    · rw [tU_off (by omega), tU_off (by omega), tU_off (by omega)]
  · rw [tU_off (by omega), tU_off (by omega)]
theorem warmN_9 {E : zEv} : ∀ (m h : Nat) (T : zT) (i : Nat), warmN E m h T 9 i = T 9 i := by
  intro m
  induction m with
  | zero => intro h T i; rfl
  | succ m ih =>
    intro h T i
    show warmN E m (h + 1) (warm1 E h T) 9 i = _
    rw [ih, warm1_9]
theorem k_warms {E : zEv} {K M w : Nat} {c : Int32 → zMem → Option (Int32 × zMem)} {x : Int32} : ∀ (n h : Nat) (s : zMem) (T : zT), kOk E K M w s T → h ≤ T 9 0 → T 9 0 - h < n → ∃ S, f_X5_passNight_28 w c n x (nI h) s = c x S ∧ kOk E K M w S (warmN E (T 9 0 - h) h T) := by
  intro n
  induction n with
  | zero => intro k s T _ _ h; omega
  | succ n ih =>
    intro h s T o hk hn
    have h6 := o.2.2.1.1
    rw [f_X5_passNight_28, o.2.1.c0.1]
    by_cases q : T 9 0 ≤ h
    · rw [if_pos (nI_le q (by omega)), show T 9 0 - h = 0 by omega]
      exact ⟨s, rfl, o⟩
    · rw [if_neg (nI_ge (by omega) (by omega))]
      obtain ⟨S1, e1, o1⟩ := k_warm o (by omega : h < T 9 0)
      rw [e1, bd_s, nm_eq, nI_1]
      obtain ⟨S, e2, o2⟩ := ih (h + 1) S1 (warm1 E h T) o1 (by rw [warm1_9]; omega) (by rw [warm1_9]; omega)
      refine ⟨S, e2, ?_⟩
      rw [warm1_9] at o2
      rw [show T 9 0 - h = (T 9 0 - (h + 1)) + 1 by omega]
      exact o2
theorem rC.up9 {w : Nat} {s : zMem} {T : zT} (h : rC w s T) {i : Nat} (h2 : 2 ≤ i) (v : Nat) : rC w (zUp s w (9 + i) (nI v)) (tU T 9 i v) := by
  intro x y hxy
  have hxy : tIn T x y := by
    unfold tIn at hxy ⊢
    rw [tU_off (by omega), tU_off (by omega)] at hxy
    exact hxy
  have h1 := h x y hxy
  rw [zUp_at]
  unfold tU
  have hx : x < 9 ∨ x = 9 := by unfold tIn at hxy; omega
  rcases hx with hx | rfl
  · unfold cA cI at h1 ⊢
    rw [if_pos hx, if_pos hx] at h1 ⊢
    rw [if_neg (by omega), if_neg (by omega), h1]
  · have e1 : cA w 9 = w := rfl
    have e2 : cI 9 y = 9 + y := rfl
    rw [e1, e2] at h1 ⊢
    by_cases q : y = i
    · subst q
      rw [if_pos ⟨rfl, rfl⟩, if_pos ⟨rfl, rfl⟩]
    · rw [if_neg (by omega), if_neg (by omega), h1]
theorem tBd.night {M : Nat} {T : zT} (h : tBd M T) (hM : M < 100000) : tBd (M + 1) (tU T 9 2 (T 9 2 + 1)) := by
  obtain ⟨h0, h1, h2, h3, h4, h5, h6⟩ := h
  have e : ∀ j q, j ≠ 9 → tU T 9 2 (T 9 2 + 1) j q = T j q := fun j q hj => tU_off (by omega)
  have e2 : ∀ q, q ≠ 2 → tU T 9 2 (T 9 2 + 1) 9 q = T 9 q := fun q hj => tU_off (by omega)
  refine ⟨by rw [e2 0 (by omega)]; exact h0, by rw [e2 1 (by omega)]; exact h1, by rw [tU_hit]; omega, by rw [e2 3 (by omega)]; exact h3, by omega, fun q hq => ?_, fun q hq => ?_⟩
  · rw [e2 0 (by omega)] at hq
    simp only [e 0 q (by omega), e 1 q (by omega), e 2 q (by omega), e 3 q (by omega), e 4 q (by omega)]
    exact h5 q hq
  · rw [e2 1 (by omega)] at hq
    simp only [e 5 q (by omega), e 6 q (by omega), e 7 q (by omega), e 8 q (by omega), e2 0 (by omega)]
    exact h6 q hq
theorem k_night {E : zEv} {K M w : Nat} {s : zMem} {T : zT} (o : kOk E K M w s T) (hM : M < 100000) : ∃ S, f_X5_passNight w s = some (nI (nightT E T).1, S) ∧ kOk E K (M + 1) w S (nightT E T).2 := by
  unfold f_X5_passNight nightT
  have h10 := o.2.2.1.2.1
  obtain ⟨S1, e1, o1⟩ := k_grows (c := fun s6 => bd (f_X5_endDueLoans w s6) fun r7 s8 => f_X5_passNight_28 w (fun x15 s16 => nm (zUp s16 w 11 ((s16 w 11) + 1)) fun s17 => some (x15, s17)) zN r7 0 s8) zN 0 s T o (by omega) (by unfold zN; omega)
  rw [zn0] at e1
  rw [e1]
  obtain ⟨S2, e2, o2⟩ := k_end o1
  dsimp only
  rw [e2, bd_s]
  rw [growN_9] at o2 ⊢
  have h9 := endT_9 (T 9 1) 0 0 (growN E (T 9 1 - 0) 0 T)
  rw [growN_9, growN_9, growN_9] at h9
  obtain ⟨S3, e3, o3⟩ := k_warms (c := fun x15 s16 => nm (zUp s16 w 11 ((s16 w 11) + 1)) fun s17 => some (x15, s17)) (x := nI (endT (T 9 1) 0 0 (growN E (T 9 1 - 0) 0 T)).1) zN 0 S2 _ o2 (by omega) (by have := o2.2.2.1.1; unfold zN; omega)
  rw [zn0] at e3
  rw [e3]
  rw [h9.1] at o3
  rw [Nat.sub_zero, Nat.sub_zero] at o3
  rw [Nat.sub_zero]
  rw [nm_eq, o3.2.1.c0.2.2.1, nI_1]
  refine ⟨_, rfl, o3.1, o3.2.1.up9 (i := 2) (by omega) _, o3.2.2.1.night hM, ?_, o3.2.2.2.2.of (fun q i hq => zUp_off (by have := o.1; omega))⟩
  rw [tU_off (by omega)]
  exact o3.2.2.2.1

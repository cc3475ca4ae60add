-- a night of the value
def growthN (kd mo c sa : Nat) : Nat := if kd = 1 then (if c ≤ 50 then sa else sa + mo) else if kd = 2 then sa else if kd = 3 then (if c ≤ 50 then sa else sa + mo) else if kd = 4 then 2 * sa + 1 else if kd = 5 then 0 else sa
def coolN (kd he sa : Nat) : Nat := if kd = 1 then sa / 2 else if kd = 2 then sa + he / 20 else if kd = 3 then (if he ≤ 200 then sa / 2 else he) else if kd = 4 then sa + he / 20 else sa
def burnN (kd mo ni sa : Nat) : Nat := if kd = 2 then 2 * sa else if kd = 3 then sa + mo else if kd = 4 then (if mo ≤ ni then 2 * sa else 0) else if kd = 5 then (if ni % 2 = 0 then 0 else 30) else sa
def grow1 (E : zEv) (k : Nat) (T : zT) : zT := tU T 7 k (min 9999 (T 7 k + growthN (T 3 (T 6 k)) (T 4 (T 6 k)) (T 7 k) (sayT E 0 T (T 6 k) (T 7 k))))
def growN (E : zEv) : Nat → Nat → zT → zT
  | 0, _, T => T
  | m + 1, k, T => growN E m (k + 1) (grow1 E k T)
def passT (g t c : Nat) (T : zT) : zT := tU (tU T 0 g (T 0 g - c)) 0 t (min 9999 (tU T 0 g (T 0 g - c) 0 t + c))
def dropT (k : Nat) (T : zT) : zT := fun j i => if 5 ≤ j ∧ j < 9 ∧ k ≤ i ∧ i + 1 < T 9 1 then T j (i + 1) else if j = 9 ∧ i = 1 then T 9 1 - 1 else T j i
def endT : Nat → Nat → Nat → zT → Nat × zT
  | 0, _, f, T => (f, T)
  | m + 1, k, f, T => if T 9 2 < T 8 k then endT m (k + 1) f T else if T 7 k ≤ T 0 (T 6 k) then endT m k f (dropT k (passT (T 6 k) (T 5 k) (T 7 k) T)) else endT m k (f ||| 2 ^ T 6 k) (dropT k (tU T 2 (T 6 k) 20))
def coolT (E : zEv) (h : Nat) (T : zT) : zT := tU T 0 h (T 0 h - coolN (T 3 h) (T 0 h) (sayT E 1 T h 0))
def burnT (E : zEv) (h : Nat) (T : zT) : zT := tU (tU T 0 h (min 9999 (T 0 h + burnN (T 3 h) (T 4 h) (T 9 2) (sayT E 2 T h 0)))) 1 h (T 1 h - 1)
def warm1 (E : zEv) (h : Nat) (T : zT) : zT := if T 2 h = 0 then (if T 1 h = 0 then coolT E h T else coolT E h (burnT E h T)) else tU (tU T 2 h (T 2 h - 1)) 0 h 0
def warmN (E : zEv) : Nat → Nat → zT → zT
  | 0, _, T => T
  | m + 1, h, T => warmN E m (h + 1) (warm1 E h T)
def nightT (E : zEv) (T : zT) : Nat × zT :=
  let q := endT (T 9 1) 0 0 (growN E (T 9 1) 0 T)
  let U := warmN E (T 9 0) 0 q.2
  (q.1, tU U 9 2 (U 9 2 + 1))
-- what stays in bounds
theorem tBd.up {M : Nat} {T : zT} (h : tBd M T) {j i v : Nat} (hj : j < 9) (hv : (j = 0 ∧ v ≤ 9999) ∨ (j = 1 ∧ v ≤ 99) ∨ (j = 2 ∧ v ≤ 99) ∨ (j = 7 ∧ v ≤ 9999) ∨ (j = 3 ∧ v ≤ 5) ∨ (j = 4 ∧ v ≤ 9)) : tBd M (tU T j i v) := by
  obtain ⟨h0, h1, h2, h3, h4, h5, h6⟩ := h
  have e : ∀ q, tU T j i v 9 q = T 9 q := fun q => tU_off (Or.inl (by omega))
  refine ⟨by rw [e]; exact h0, by rw [e]; exact h1, by rw [e]; exact h2, by rw [e]; exact h3, h4, fun q hq => ?_, fun q hq => ?_⟩
  · rw [e] at hq
    have := h5 q hq
    unfold tU
    refine ⟨?_, ?_, ?_, ?_, ?_⟩ <;> split <;> omega
  · rw [e] at hq
    have := h6 q hq
    rw [e]
    unfold tU
    refine ⟨?_, ?_, ?_, ?_⟩ <;> split <;> omega
theorem growthN_le {kd mo c sa : Nat} (h : sa ≤ 99) (h2 : mo ≤ 9) : growthN kd mo c sa ≤ 300 := by
  unfold growthN
  repeat' split
  all_goals omega
theorem burnN_le {kd mo ni sa : Nat} (h : sa ≤ 99) (h2 : mo ≤ 9) : burnN kd mo ni sa ≤ 300 := by
  unfold burnN
  repeat' split
  all_goals omega
theorem sayT_le (E : zEv) (p : Nat) (T : zT) (h c : Nat) : sayT E p T h c ≤ 99 := clampN_le _
theorem grow1_bd {E : zEv} {M k : Nat} {T : zT} (h : tBd M T) : tBd M (grow1 E k T) := h.up (by omega) (Or.inr (Or.inr (Or.inr (Or.inl ⟨rfl, Nat.min_le_left _ _⟩))))
theorem passT_bd {M g t c : Nat} {T : zT} (h : tBd M T) (hg : g < T 9 0) : tBd M (passT g t c T) := by
  have := (h.2.2.2.2.2.1 g hg).1
  exact (h.up (j := 0) (i := g) (v := T 0 g - c) (by omega) (Or.inl ⟨rfl, by omega⟩)).up (by omega) (Or.inl ⟨rfl, Nat.min_le_left _ _⟩)
theorem dropT_9 {k : Nat} {T : zT} : dropT k T 9 0 = T 9 0 ∧ dropT k T 9 1 = T 9 1 - 1 ∧ dropT k T 9 2 = T 9 2 ∧ dropT k T 9 3 = T 9 3 := by
  unfold dropT
  refine ⟨?_, ?_, ?_, ?_⟩ <;> simp
theorem dropT_bd {M k : Nat} {T : zT} (h : tBd M T) (hk : k < T 9 1) : tBd M (dropT k T) := by
  obtain ⟨e0, e1, e2, e3⟩ := dropT_9 (k := k) (T := T)
  obtain ⟨h0, h1, h2, h3, h4, h5, h6⟩ := h
  refine ⟨by rw [e0]; exact h0, by rw [e1]; omega, by rw [e2]; exact h2, by rw [e3]; exact h3, h4, fun q hq => ?_, fun q hq => ?_⟩
  · rw [e0] at hq
    have := h5 q hq
    unfold dropT
    simpa using this
  · rw [e1] at hq
    rw [e0]
    by_cases hc : k ≤ q
    · have := h6 (q + 1) (by omega)
      unfold dropT
      simp only [hc, show q + 1 < T 9 1 by omega, and_self, Nat.le_refl, and_true, true_and]
      simpa using this
    · have := h6 q (by omega)
      unfold dropT
      simpa [hc] using this
-- the class: kinds
theorem zn0 : nI 0 = 0 := rfl
theorem zn1 : nI 1 = 1 := rfl
theorem zn2 : nI 2 = 2 := rfl
theorem zn3 : nI 3 = 3 := rfl
theorem zn4 : nI 4 = 4 := rfl
theorem zn5 : nI 5 = 5 := rfl
theorem nI_le50 {c : Nat} (h : c < 2 ^ 31) : (nI c ≤ 50) = (c ≤ 50) := propext (nI_leI h (b := 50) (by omega))
theorem nI_le200 {c : Nat} (h : c < 2 ^ 31) : (nI c ≤ 200) = (c ≤ 200) := propext (nI_leI h (b := 200) (by omega))
theorem nI_le0 {c : Nat} (h : c < 2 ^ 31) : (nI c ≤ 0) = (c = 0) := propext ((nI_leI h (b := 0) (by omega)).trans (by omega))
theorem k_growth {kd mo c sa : Nat} (hk : kd ≤ 5) (hc : c < 2 ^ 31) (s : zMem) : f_X1_growth (nI kd) (nI mo) (nI c) (nI sa) s = some (nI (growthN kd mo c sa), s) := by
  have e2 : (2 : Int32) * nI sa + 1 = nI (2 * sa + 1) := by rw [← zn2, nI_mul, nI_1]
  rcases (by omega : kd = 0 ∨ kd = 1 ∨ kd = 2 ∨ kd = 3 ∨ kd = 4 ∨ kd = 5) with rfl | rfl | rfl | rfl | rfl | rfl
  · rfl
  · by_cases q : c ≤ 50 <;> simp [f_X1_growth, growthN, zn1, nI_le50 hc, q, nI_add]
  · rfl
  · by_cases q : c ≤ 50 <;> simp [f_X1_growth, growthN, zn3, nI_le50 hc, q, nI_add]
  · simp [f_X1_growth, growthN, zn4, e2]
  · rfl
theorem k_cooling {kd he sa : Nat} (hk : kd ≤ 5) (hc : he < 2 ^ 30) (hs : sa < 2 ^ 30) (s : zMem) : f_X1_cooling (nI kd) (nI he) (nI sa) s = some (nI (coolN kd he sa), s) := by
  have e2 : nI sa / 2 = nI (sa / 2) := pk_div (d := 2) (by omega) (by omega) (by omega)
  have e20 : nI he / 20 = nI (he / 20) := pk_div (d := 20) (by omega) (by omega) (by omega)
  rcases (by omega : kd = 0 ∨ kd = 1 ∨ kd = 2 ∨ kd = 3 ∨ kd = 4 ∨ kd = 5) with rfl | rfl | rfl | rfl | rfl | rfl
  · rfl
  · simp [f_X1_cooling, coolN, zn1, e2]
  · simp [f_X1_cooling, coolN, zn2, e20, nI_add]
  · by_cases q : he ≤ 200 <;> simp [f_X1_cooling, coolN, zn3, nI_le200 (show he < 2 ^ 31 by omega), q, e2]
  · simp [f_X1_cooling, coolN, zn4, e20, nI_add]
  · rfl
theorem k_burning {kd mo ni sa : Nat} (hk : kd ≤ 5) (hm : mo < 2 ^ 31) (hn : ni < 2 ^ 31) (s : zMem) : f_X1_burning (nI kd) (nI mo) (nI ni) (nI sa) s = some (nI (burnN kd mo ni sa), s) := by
  have e2 : (2 : Int32) * nI sa = nI (2 * sa) := by rw [← zn2, nI_mul]
  have er : zrem (nI ni) 2 = nI (ni % 2) := pk_rem (d := 2) hn (by omega) (by omega)
  rcases (by omega : kd = 0 ∨ kd = 1 ∨ kd = 2 ∨ kd = 3 ∨ kd = 4 ∨ kd = 5) with rfl | rfl | rfl | rfl | rfl | rfl
  · rfl
  · rfl
  · simp [f_X1_burning, burnN, zn2, e2]
  · simp [f_X1_burning, burnN, zn3, nI_add]
  · by_cases q : mo ≤ ni
    · simp [f_X1_burning, burnN, zn4, e2, (nI_leI hm hn), q]
    · simp [f_X1_burning, burnN, zn4, (nI_leI hm hn), q, zn0]
  · rcases (by omega : ni % 2 = 0 ∨ ni % 2 = 1) with q | q
    · simp [f_X1_burning, burnN, zn5, er, q, zn0]
    · simp [f_X1_burning, burnN, zn5, er, q, zn1]; rfl
-- the class: its World w stands for T
def kOk (E : zEv) (K M w : Nat) (s : zMem) (T : zT) : Prop := 9 ≤ w ∧ rC w s T ∧ tBd M T ∧ T 9 3 < K ∧ zEC E K s
theorem zEC.of {E : zEv} {K : Nat} {s S : zMem} (h : zEC E K s) (hS : ∀ q k, (q = 1 ∨ q = 2 ∨ q = 3) → S q k = s q k) : zEC E K S := fun t p a U ht hp ha hU => h t p a U ht hp ha (fun q k hq => (hU q k hq).trans (hS q k hq))
theorem k_grow {E : zEv} {K M w k : Nat} {s : zMem} {T : zT} (h : kOk E K M w s T) (hk : k < T 9 1) : ∃ S, f_X5_grow w (nI k) s = some ((), S) ∧ kOk E K M w S (grow1 E k T) := by
  obtain ⟨hw, hr, hb, h3, hE⟩ := h
  have hl := hr.cl hk
  have hbk := hb.2.2.2.2.2.2 k hk
  have hh := hr.ch hbk.2.1
  have hbh := hb.2.2.2.2.2.1 _ hbk.2.1
  have h6 := hb.1
  have h10 := hb.2.1
  obtain ⟨S1, e1, f1⟩ := k_says (c := T 7 k) (by omega) hr hb h3 hE (show 0 < 3 by omega) hbk.2.1
  have hg : f_X5_grow w (nI k) s = some ((), zUp S1 (w + 8) k (nI (min 9999 (T 7 k + growthN (T 3 (T 6 k)) (T 4 (T 6 k)) (T 7 k) (sayT E 0 T (T 6 k) (T 7 k)))))) := by
    have g10 : zib (nI k) 10 = true := zib_nI (by omega) (by decide)
    have x10 : zix (nI k) = k := zix_nI (by omega)
    have g6 : zib (nI (T 6 k)) 6 = true := zib_nI (by omega) (by decide)
    have x6 : zix (nI (T 6 k)) = T 6 k := zix_nI (by omega)
    unfold f_X5_grow
    rw [gd_t g10, x10, hl.2.1, nm_eq, gd_t g6, gd_t g6, gd_t g10, gd_t g10, hl.2.2.1, show (0 : Int32) = nI 0 from rfl, e1, bd_s, x6, hh.2.2.2.1, hh.2.2.2.2, k_growth (by omega) (by omega), bd_s, gd_t g10, gd_t g10, f1 (w + 8) k (by omega) (by omega), hl.2.2.1, nI_add, show (9999 : Int32) = nI 9999 from rfl, zmin_nI (by omega) (by have := growthN_le (kd := T 3 (T 6 k)) (c := T 7 k) (sayT_le E 0 T (T 6 k) (T 7 k)) hbh.2.2.2.2; omega), nm_eq]
  refine ⟨_, hg, hw, ?_, grow1_bd hb, ?_, hE.of (fun q i hq => ?_)⟩
  · exact (hr.of (S := S1) (fun a q hq => f1 a q (by omega) (by omega))).up (by omega) k _
  · show tU T 7 k _ 9 3 < K
    rw [tU_off (by omega)]
    exact h3
  · rw [zUp_off (by omega)]
    exact f1 q i (by omega) (by omega)
theorem growN_9 {E : zEv} : ∀ (m k : Nat) (T : zT) (i : Nat), growN E m k T 9 i = T 9 i := by
  intro m
  induction m with
  | zero => intro k T i; rfl
  | succ m ih =>
    intro k T i
    show growN E m (k + 1) (grow1 E k T) 9 i = _
    rw [ih]
    exact tU_off (by omega)
theorem k_grows {E : zEv} {K M w : Nat} {c : zMem → Option (Int32 × zMem)} : ∀ (n k : Nat) (s : zMem) (T : zT), kOk E K M w s T → k ≤ T 9 1 → T 9 1 - k < n → ∃ S, f_X5_passNight_2 w c n (nI k) s = c S ∧ kOk E K M w S (growN E (T 9 1 - k) k T) := by
  intro n
  induction n with
  | zero => intro k s T _ _ h; omega
  | succ n ih =>
    intro k s T h hk hn
    have hb := h.2.2.1
    have h10 := hb.2.1
    rw [f_X5_passNight_2, h.2.1.c0.2.1]
    by_cases q : T 9 1 ≤ k
    · rw [if_pos (nI_le q (by omega)), show T 9 1 - k = 0 by omega]
      exact ⟨s, rfl, h⟩
    · rw [if_neg (nI_ge (by omega) (by omega))]
      obtain ⟨S1, e1, h1⟩ := k_grow h (by omega : k < T 9 1)
      rw [e1, bd_s, nm_eq, nI_1]
      have e9 : grow1 E k T 9 1 = T 9 1 := tU_off (by omega)
      obtain ⟨S, e2, h2⟩ := ih (k + 1) S1 (grow1 E k T) h1 (by rw [e9]; omega) (by rw [e9]; omega)
      refine ⟨S, e2, ?_⟩
      rw [e9] at h2
      rw [show T 9 1 - k = (T 9 1 - (k + 1)) + 1 by omega]
      exact h2

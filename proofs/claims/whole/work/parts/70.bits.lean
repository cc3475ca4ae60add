-- bits, bounds of nights, the model's keeping and laying back
theorem bit_if : ∀ f, f < 64 → ∀ h, h < 6 → ((nI f >>> (nI h &&& 31)) &&& 1) = if Nat.testBit f h = true then (1 : Int32) else 0 := by decide +kernel
theorem k_has {f h : Nat} (hf : f < 64) (hh : h < 6) (s : zMem) : f_X6_has (nI f) (nI h) s = some (if Nat.testBit f h = true then 1 else 0, s) := by
  unfold f_X6_has
  rw [bit_if f hf h hh]
  by_cases q : Nat.testBit f h = true
  · rw [if_pos q, if_neg (by decide)]
  · rw [if_neg q, if_pos rfl]
theorem bit_1 {f h : Nat} (hf : f < 64) (hh : h < 6) : (((nI f >>> (nI h &&& 31)) &&& 1) = 1) ↔ Nat.testBit f h = true := by
  rw [bit_if f hf h hh]
  by_cases q : Nat.testBit f h = true
  · rw [if_pos q]; exact ⟨fun _ => q, fun _ => rfl⟩
  · rw [if_neg q]; exact ⟨fun r => absurd r (by decide), fun r => absurd r q⟩
theorem bit_0 {f h : Nat} (hf : f < 64) (hh : h < 6) : (((nI f >>> (nI h &&& 31)) &&& 1) = 0) ↔ ¬ Nat.testBit f h = true := by
  rw [bit_if f hf h hh]
  by_cases q : Nat.testBit f h = true
  · rw [if_pos q]; exact ⟨fun r => absurd r (by decide), fun r => absurd q r⟩
  · rw [if_neg q]; exact ⟨fun _ => q, fun _ => rfl⟩
def pc (f : Nat) : Nat := tS (fun h => if Nat.testBit f h = true then 1 else 0) 6
def bcE (p : Int32) : Int32 := match f_J6_bitCount_0f7a4 p (fun _ _ => 0) with
  | some (v, _) => v
  | none => 0
theorem bc_val : ∀ f, f < 64 → bcE (nI f) = nI (pc f) := by decide +kernel
theorem k_bc {f : Nat} (hf : f < 64) (s : zMem) : f_J6_bitCount_0f7a4 (nI f) s = some (nI (pc f), s) := by
  rw [← bc_val f hf]
  rfl
theorem m_onesL {f : Nat} (hf : f < 64) (s : zMem) : ∀ (n i : Nat), i ≤ 6 → 6 - i < n → f_X7_ones_4 n (nI f) (nI (tS (fun h => if Nat.testBit f h = true then 1 else 0) i)) (nI i) s = some (nI (pc f), s) := by
  intro n
  induction n with
  | zero => intro i h1 h2; omega
  | succ n ih =>
    intro i h1 h2
    rw [f_X7_ones_4]
    by_cases q : 6 ≤ i
    · rw [if_pos (show (6 : Int32) ≤ nI i from nI_le (a := 6) q (by omega)), show i = 6 by omega]
      rfl
    · rw [if_neg (show ¬ (6 : Int32) ≤ nI i from nI_ge (b := 6) (by omega) (by omega)), bit_if f hf i (by omega), nm_eq, nm_eq, nI_1]
      have := ih (i + 1) (by omega) (by omega)
      by_cases c : Nat.testBit f i = true
      · rw [if_pos c, nI_1]
        rw [show tS (fun h => if Nat.testBit f h = true then 1 else 0) (i + 1) = tS (fun h => if Nat.testBit f h = true then 1 else 0) i + 1 by simp [tS, c]] at this
        exact this
      · rw [if_neg c, show (0 : Int32) = nI 0 from rfl, nI_add]
        rw [show tS (fun h => if Nat.testBit f h = true then 1 else 0) (i + 1) = tS (fun h => if Nat.testBit f h = true then 1 else 0) i by simp [tS, c]] at this
        exact this
theorem m_ones {f : Nat} (hf : f < 64) (s : zMem) : f_X7_ones (nI f) s = some (nI (pc f), s) := m_onesL hf s zN 0 (by omega) (by unfold zN; omega)
theorem or_64 {a b : Nat} (ha : a < 64) (hb : b < 64) : a ||| b < 64 := Nat.or_lt_two_pow (n := 6) ha hb
theorem p2_64 {h : Nat} (hh : h < 6) : 2 ^ h < 64 := Nat.pow_lt_pow_right (by omega) hh
theorem growN_bd {E : zEv} {M : Nat} : ∀ (m k : Nat) (T : zT), tBd M T → tBd M (growN E m k T) := by
  intro m
  induction m with
  | zero => intro k T h; exact h
  | succ m ih => intro k T h; exact ih (k + 1) _ (grow1_bd h)
theorem endT_bd {M : Nat} : ∀ (m k f : Nat) (T : zT), tBd M T → k + m = T 9 1 → f < 64 → (endT m k f T).1 < 64 ∧ tBd M (endT m k f T).2 := by
  intro m
  induction m with
  | zero => intro k f T h _ hf; exact ⟨hf, h⟩
  | succ m ih =>
    intro k f T h hk hf
    have hb := h.2.2.2.2.2.2 k (by omega)
    have h6 := h.1
    unfold endT
    by_cases c1 : T 9 2 < T 8 k
    · rw [if_pos c1]
      exact ih (k + 1) f T h (by omega) hf
    · rw [if_neg c1]
      by_cases c2 : T 7 k ≤ T 0 (T 6 k)
      · rw [if_pos c2]
        have e9 : passT (T 6 k) (T 5 k) (T 7 k) T 9 1 = T 9 1 := passT_1.1
        exact ih k f _ (dropT_bd (passT_bd h hb.2.1) (by rw [e9]; omega)) (by rw [dropT_9.2.1, e9]; omega) hf
      · rw [if_neg c2]
        have e9 : tU T 2 (T 6 k) 20 9 1 = T 9 1 := tU_off (by omega)
        exact ih k _ _ (dropT_bd (h.up (by omega) (by omega)) (by rw [e9]; omega)) (by rw [dropT_9.2.1, e9]; omega) (or_64 hf (p2_64 (by omega)))
theorem warm1_bd {E : zEv} {M h : Nat} {T : zT} (hb : tBd M T) (hh : h < T 9 0) : tBd M (warm1 E h T) := by
  unfold warm1
  have hbh := hb.2.2.2.2.2.1 h hh
  by_cases c1 : T 2 h = 0
  · rw [if_pos c1]
    by_cases c2 : T 1 h = 0
    · rw [if_pos c2]; exact coolT_bd hb hh
    · rw [if_neg c2]
      have hb2 := burnT_bd (E := E) hb hh
      refine coolT_bd hb2 ?_
      have : burnT E h T 9 0 = T 9 0 := by unfold burnT; rw [tU_off (by omega), tU_off (by omega)]
      rw [this]; exact hh
  · rw [if_neg c1]
    exact (hb.up (by omega) (by omega)).up (by omega) (by omega)
theorem warmN_bd {E : zEv} {M : Nat} : ∀ (m h : Nat) (T : zT), tBd M T → h + m ≤ T 9 0 → tBd M (warmN E m h T) := by
  intro m
  induction m with
  | zero => intro h T hb _; exact hb
  | succ m ih =>
    intro h T hb hm
    exact ih (h + 1) _ (warm1_bd hb (by omega)) (by rw [warm1_9]; omega)
theorem nightT_bd {E : zEv} {M : Nat} {T : zT} (h : tBd M T) (hM : M < 100000) : (nightT E T).1 < 64 ∧ tBd (M + 1) (nightT E T).2 := by
  have h1 := growN_bd (E := E) (T 9 1) 0 T h
  have h2 := endT_bd (T 9 1) 0 0 _ h1 (by rw [growN_9]; omega) (by omega)
  refine ⟨h2.1, ?_⟩
  have he := endT_9 (T 9 1) 0 0 (growN E (T 9 1) 0 T)
  have h3 := warmN_bd (E := E) (T 9 0) 0 _ h2.2 (by rw [he.1, growN_9]; omega)
  exact h3.night hM
theorem nightsT_bd {E : zEv} : ∀ (m f M : Nat) (T : zT), tBd M T → M + m ≤ 100000 → f < 64 → (nightsT E m f T).1 < 64 ∧ tBd (M + m) (nightsT E m f T).2 := by
  intro m
  induction m with
  | zero => intro f M T h _ hf; exact ⟨hf, h⟩
  | succ m ih =>
    intro f M T h hM hf
    have h1 := nightT_bd (E := E) h (by omega)
    have := ih (f ||| (nightT E T).1) (M + 1) _ h1.2 (by omega) (or_64 hf h1.1)
    rw [show M + (m + 1) = M + 1 + m by omega]
    exact this
theorem nightT_none {E : zEv} {T : zT} (h : T 9 1 = 0) : (nightT E T).1 = 0 ∧ (nightT E T).2 9 1 = 0 := by
  have e : nightT E T = ((endT (T 9 1) 0 0 (growN E (T 9 1) 0 T)).1, tU (warmN E (T 9 0) 0 (endT (T 9 1) 0 0 (growN E (T 9 1) 0 T)).2) 9 2 (warmN E (T 9 0) 0 (endT (T 9 1) 0 0 (growN E (T 9 1) 0 T)).2 9 2 + 1)) := rfl
  rw [e, h]
  refine ⟨rfl, ?_⟩
  dsimp only
  rw [tU_off (by omega), warmN_9]
  exact h
theorem nightsT_none {E : zEv} : ∀ (m f : Nat) (T : zT), T 9 1 = 0 → (nightsT E m f T).1 = f := by
  intro m
  induction m with
  | zero => intro f T _; rfl
  | succ m ih =>
    intro f T h
    obtain ⟨h1, h2⟩ := nightT_none (E := E) h
    show (nightsT E m (f ||| (nightT E T).1) (nightT E T).2).1 = f
    rw [ih _ _ h2, h1, Nat.or_zero]
/-- the class leaves out the nights without loans -/
theorem k_failedL {E : zEv} {K w m : Nat} (hm : m < 2 ^ 31) : ∀ (n i f M : Nat) (s : zMem) (T : zT), kOk E K M w s T → M + (m - i) ≤ 100000 → i ≤ m → m - i < n → ∃ S, f_X5_failedIn_4 w n (nI m) (nI f) (nI i) s = some (nI (nightsT E (m - i) f T).1, S) := by
  intro n
  induction n with
  | zero => intro i f M s T _ _ _ h; omega
  | succ n ih =>
    intro i f M s T o hM hi hn
    rw [f_X5_failedIn_4]
    by_cases q : m ≤ i
    · rw [if_pos (nI_le q (by omega)), show m - i = 0 by omega]
      exact ⟨s, rfl⟩
    · have h10 := o.2.2.1.2.1
      rw [if_neg (nI_ge (by omega) (by omega)), o.2.1.c0.2.1, zif_le0 (by omega)]
      by_cases c : T 9 1 = 0
      · rw [if_pos c, nightsT_none _ _ _ c]
        exact ⟨s, rfl⟩
      · rw [if_neg c]
        obtain ⟨S1, e1, o1⟩ := k_night o (by omega)
        rw [e1, bd_s, nm_eq, nm_eq, nI_or, nI_1, show m - i = (m - (i + 1)) + 1 by omega]
        exact ih (i + 1) _ (M + 1) S1 _ o1 (by omega) (by omega) (by omega)
theorem k_failed {E : zEv} {K M w m : Nat} {s : zMem} {T : zT} (o : kOk E K M w s T) (hm : m ≤ 100) (hM : M ≤ 2000) : ∃ S, f_X5_failedIn w (nI m) s = some (nI (nightsT E m 0 T).1, S) := by
  unfold f_X5_failedIn
  exact k_failedL (by omega) zN 0 0 M s T o (by omega) (by omega) (by unfold zN; omega)
-- the model keeps its rows beside, and lays them back
def WK (s S : zMem) : Prop := wM s S ∧ kp s S
theorem m_open {E : zEv} {K M : Nat} {s : zMem} {T : zT} (o : mOk E K M s T) : ∃ S, f_X7_keeps s = some ((), S) ∧ mOk E K M S T ∧ WK s S ∧ ∀ a k, a ≠ 68 → S a k = s a k := by
  obtain ⟨S, e, f, h⟩ := m_keeps s
  exact ⟨S, e, o.fr (o.1.of (fun a k hk => f a k (by omega))) o.2.1 rfl (fun q k hq => f q k (by omega)), ⟨fun a k _ _ _ _ _ h68 => f a k h68, h⟩, f⟩
theorem WK.fr {s S W : zMem} (h : WK s S) (hf : ∀ a k, ¬ ((a = 47 ∧ (k = 8 ∨ k = 9 ∨ k = 36)) ∨ (50 ≤ a ∧ a ≤ 54) ∨ a = 66 ∨ a = 67) → W a k = S a k) : WK s W := by
  obtain ⟨h1, k1, k2, k3, k4⟩ := h
  refine ⟨fun a k a1 a2 a3 a4 a5 a6 => by rw [hf a k (by omega), h1 a k a1 a2 a3 a4 a5 a6], fun k hk => by rw [hf _ _ (by omega), k1 k hk], fun k hk => ?_, by rw [hf _ _ (by omega), k3], by rw [hf _ _ (by omega), k4]⟩
  rw [hf _ _ (by omega), hf _ _ (by omega), hf _ _ (by omega), hf _ _ (by omega)]
  exact k2 k hk
theorem m_close {s W : zMem} (h : WK s W) : ∃ S, f_X7_lays W = some ((), S) ∧ ∀ a k, cM a k → S a k = s a k := by
  obtain ⟨S, e, ag⟩ := m_lays h.2 h.1
  exact ⟨S, e, ag.c⟩
theorem k_now {E : zEv} {K M : Nat} {s S : zMem} {T : zT} (o : kOk E K M 9 s T) (hf : ∀ a k, a < 19 → a ≠ 4 → S a k = s a k) : kOk E K M 9 S T :=
  o.fr (o.2.1.of (fun a k hk => hf a k (by omega) (by omega))) o.2.2.1 rfl (fun q k hq => hf q k (by omega) (by omega))
theorem m_now {E : zEv} {K M : Nat} {s S : zMem} {T : zT} (o : mOk E K M s T) (hf : ∀ a k, cM a k → S a k = s a k) : mOk E K M S T :=
  o.fr (o.1.of2 o.2.1 hf) o.2.1 rfl (fun q k hq => hf q k (by unfold cM; omega))

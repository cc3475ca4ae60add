-- debts: from whom a fire came
def srcP (T : zT) (h : Nat) : Nat → Nat → Nat → Nat
  | 0, _, f => f
  | r + 1, k, f => if T 6 k = h ∨ Nat.testBit f (T 6 k) = true then srcP T h r (k + 1) (f ||| 2 ^ T 5 k) else srcP T h r (k + 1) f
theorem srcP_or {M : Nat} {T : zT} {h : Nat} (hb : tBd M T) : ∀ (r k f : Nat), k + r ≤ T 9 1 → ∃ g, g < 2 ^ T 9 0 ∧ srcP T h r k f = f ||| g := by
  intro r
  induction r with
  | zero => intro k f _; exact ⟨0, Nat.pos_of_ne_zero (by simp), by rw [Nat.or_zero]; rfl⟩
  | succ r ih =>
    intro k f hk
    have hk5 := (hb.2.2.2.2.2.2 k (by omega)).1
    unfold srcP
    by_cases c : T 6 k = h ∨ Nat.testBit f (T 6 k) = true
    · rw [if_pos c]
      obtain ⟨g, hg, e⟩ := ih (k + 1) (f ||| 2 ^ T 5 k) (by omega)
      exact ⟨2 ^ T 5 k ||| g, Nat.or_lt_two_pow (Nat.pow_lt_pow_right (by omega) hk5) hg, by rw [e, Nat.or_assoc]⟩
    · rw [if_neg c]
      exact ih (k + 1) f (by omega)
theorem pow_64 {H : Nat} (h : H ≤ 6) : 2 ^ H ≤ 64 := Nat.pow_le_pow_right (n := 2) (by omega) h
def srcT (T : zT) (h f : Nat) : Nat := srcP T h (T 9 1) 0 f
def itS (P : Nat → Nat) : Nat → Nat → Nat
  | 0, x => x
  | m + 1, x => itS P m (P x)
theorem k_srcP {w h M : Nat} {T : zT} {c : Int32 → Int32 → Int32 → zMem → Option (Int32 × zMem)} {y : Int32} {s : zMem} (hr : rC w s T) (hb : tBd M T) (hh : h < 6) : ∀ (n k f : Nat), k ≤ T 9 1 → T 9 1 - k < n → f < 64 → f_X5_sourceOf_15 w c n (nI h) (nI f) y (nI k) s = c (nI h) (nI (srcP T h (T 9 1 - k) k f)) y s := by
  intro n
  induction n with
  | zero => intro k f _ hn; omega
  | succ n ih =>
    intro k f hk hn hf
    have h6 := hb.1
    have h10 := hb.2.1
    rw [f_X5_sourceOf_15, hr.c0.2.1]
    by_cases q : T 9 1 ≤ k
    · rw [if_pos (nI_le q (by omega)), show T 9 1 - k = 0 by omega]
      rfl
    · have hl := hr.cl (k := k) (by omega)
      have bk := hb.2.2.2.2.2.2 k (by omega)
      have g10 : zib (nI k) 10 = true := zib_nI (by omega) (by decide)
      have x10 : zix (nI k) = k := zix_nI (by omega)
      have es : ∀ j, j < 6 → nI f ||| ((1 : Int32) <<< (nI j &&& 31)) = nI (f ||| 2 ^ j) := fun j hj => by rw [nI_shl j hj, nI_or]
      have f2 := or_64 hf (p2_64 (h := T 5 k) (by omega))
      rw [if_neg (nI_ge (by omega) (by omega)), gd_t g10, x10, hl.2.1, hl.1, show T 9 1 - k = (T 9 1 - (k + 1)) + 1 by omega]
      unfold srcP
      by_cases c1 : T 6 k = h
      · rw [if_pos (by rw [c1]), if_pos (Or.inl c1), gd_t g10, es _ (by omega), nm_eq, nm_eq, nI_1]
        exact ih (k + 1) _ (by omega) (by omega) f2
      · rw [if_neg (fun r => c1 ((nI_eq (by omega) (by omega)).mp r)), gd_t g10, k_has hf (by omega), bd_s, zif01]
        by_cases c2 : Nat.testBit f (T 6 k) = true
        · rw [if_pos c2, if_pos (Or.inr c2), gd_t g10, hl.1, es _ (by omega), nm_eq, nm_eq, nI_1]
          exact ih (k + 1) _ (by omega) (by omega) f2
        · rw [if_neg c2, if_neg (by rintro (r | r) <;> contradiction), nm_eq, nI_1]
          exact ih (k + 1) f (by omega) (by omega) hf
theorem srcT_lt {M : Nat} {T : zT} {h f : Nat} (hb : tBd M T) (hf : f < 2 ^ T 9 0) : srcT T h f < 2 ^ T 9 0 := by
  obtain ⟨g, hg, e⟩ := srcP_or (h := h) hb (T 9 1) 0 f (by omega)
  unfold srcT
  rw [e]
  exact Nat.or_lt_two_pow hf hg
theorem k_srcL {w h M : Nat} {T : zT} {s : zMem} (hr : rC w s T) (hb : tBd M T) (hh : h < 6) : ∀ (n i f : Nat), i ≤ T 9 0 → T 9 0 - i < n → f < 2 ^ T 9 0 → f_X5_sourceOf_4 w n (nI h) (nI f) (nI i) s = some (nI (itS (srcT T h) (T 9 0 - i) f), s) := by
  intro n
  induction n with
  | zero => intro i f _ hn; omega
  | succ n ih =>
    intro i f hi hn hf
    have h6 := hb.1
    have h10 := hb.2.1
    have h64 := pow_64 h6
    rw [f_X5_sourceOf_4, hr.c0.1]
    by_cases q : T 9 0 ≤ i
    · rw [if_pos (nI_le q (by omega)), show T 9 0 - i = 0 by omega]
      rfl
    · rw [if_neg (nI_ge (by omega) (by omega))]
      have e := k_srcP (c := fun x17 x18 x19 s20 => nm (x19 + 1) fun x21 => f_X5_sourceOf_4 w n x17 x18 x21 s20) (y := nI i) hr hb hh zN 0 f (by omega) (by unfold zN; omega) (by omega)
      refine e.trans ?_
      rw [nm_eq, nI_1, show T 9 0 - i = (T 9 0 - (i + 1)) + 1 by omega]
      exact ih (i + 1) _ (by omega) (by omega) (srcT_lt hb hf)
def srcV (T : zT) (h : Nat) : Nat := itS (srcT T h) (T 9 0) 0
theorem k_source {w h M : Nat} {T : zT} {s : zMem} (hr : rC w s T) (hb : tBd M T) (hh : h < 6) : f_X5_sourceOf w (nI h) s = some (nI (srcV T h), s) :=
  k_srcL hr hb hh zN 0 0 (by omega) (by have := hb.1; unfold zN; omega) (Nat.pos_of_ne_zero (by simp))
theorem pc_lt : ∀ H, H < 7 → ∀ f, f < 64 → f < 2 ^ H → pc f ≤ H := by decide +kernel
theorem pc_or : ∀ f, f < 64 → ∀ g, g < 64 → f ||| g ≠ f → pc f + 1 ≤ pc (f ||| g) := by decide +kernel
theorem itS_s (P : Nat → Nat) : ∀ m x, itS P (m + 1) x = P (itS P m x) := by
  intro m
  induction m with
  | zero => intro x; rfl
  | succ m ih => intro x; exact ih (P x)
theorem itS_lt {M : Nat} {T : zT} {h : Nat} (hb : tBd M T) : ∀ m x, x < 2 ^ T 9 0 → itS (srcT T h) m x < 2 ^ T 9 0 := by
  intro m
  induction m with
  | zero => intro x hx; exact hx
  | succ m ih => intro x hx; exact ih _ (srcT_lt hb hx)
/-- as many rounds as huts are enough -/
theorem srcV_fix {M : Nat} {T : zT} {h : Nat} (hb : tBd M T) : srcT T h (srcV T h) = srcV T h := by
  have h6 := hb.1
  have h64 := pow_64 h6
  have hz : (0 : Nat) < 2 ^ T 9 0 := Nat.pos_of_ne_zero (by simp)
  have grow : ∀ x, x < 2 ^ T 9 0 → srcT T h x ≠ x → pc x + 1 ≤ pc (srcT T h x) := by
    intro x hx hne
    obtain ⟨g, hg, e⟩ := srcP_or (h := h) hb (T 9 1) 0 x (by omega)
    unfold srcT at hne ⊢
    rw [e] at hne ⊢
    exact pc_or x (by omega) g (by omega) hne
  have key : ∀ n, srcT T h (itS (srcT T h) n 0) = itS (srcT T h) n 0 ∨ n ≤ pc (itS (srcT T h) n 0) := by
    intro n
    induction n with
    | zero => exact Or.inr (Nat.zero_le _)
    | succ n ih =>
      rw [itS_s]
      by_cases c : srcT T h (itS (srcT T h) n 0) = itS (srcT T h) n 0
      · rw [c]; exact Or.inl c
      · rcases ih with r | r
        · exact absurd r c
        · have := grow _ (itS_lt hb n 0 hz) c
          exact Or.inr (by omega)
  by_cases c : srcT T h (srcV T h) = srcV T h
  · exact c
  · have hl := itS_lt (h := h) hb (T 9 0) 0 hz
    have g1 := grow _ hl c
    have g2 := srcT_lt (h := h) hb hl
    have g3 := pc_lt (T 9 0) (by omega) _ (by omega) g2
    rcases key (T 9 0) with r | r
    · exact r
    · unfold srcV at g1
      omega
theorem m_srcP {h M : Nat} {T : zT} {c : Int32 → Int32 → Int32 → zMem → Option (Int32 × zMem)} {y : Int32} {s : zMem} (hr : rM s T) (hb : tBd M T) (hh : h < 6) : ∀ (n k f : Nat), k ≤ T 9 1 → T 9 1 - k < n → f < 64 → f_X7_sourceOf_14 c n (nI h) (nI f) y (nI k) s = c (nI h) (nI (srcP T h (T 9 1 - k) k f)) y s := by
  intro n
  induction n with
  | zero => intro k f _ hn; omega
  | succ n ih =>
    intro k f hk hn hf
    have h6 := hb.1
    have h10 := hb.2.1
    rw [f_X7_sourceOf_14, hr.c0.2.1]
    by_cases q : T 9 1 ≤ k
    · rw [if_pos (nI_le q (by omega)), show T 9 1 - k = 0 by omega]
      rfl
    · have hl := hr.cl (k := k) (by omega)
      have bk := hb.2.2.2.2.2.2 k (by omega)
      have g10 : zib (nI k) 10 = true := zib_nI (by omega) (by decide)
      have x10 : zix (nI k) = k := zix_nI (by omega)
      have es : ∀ j, j < 6 → nI f ||| ((1 : Int32) <<< (nI j &&& 31)) = nI (f ||| 2 ^ j) := fun j hj => by rw [nI_shl j hj, nI_or]
      have f2 := or_64 hf (p2_64 (h := T 5 k) (by omega))
      rw [if_neg (nI_ge (by omega) (by omega)), gd_t g10, x10, hl.2.1, show T 9 1 - k = (T 9 1 - (k + 1)) + 1 by omega]
      unfold srcP f_X7_sourceOf_49 f_X7_sourceOf_54
      by_cases c1 : T 6 k = h
      · rw [if_pos (by rw [c1]), if_pos (Or.inl c1), if_neg (by decide), gd_t g10, x10, hl.1, es _ (by omega), nm_eq, nm_eq, nI_1]
        exact ih (k + 1) _ (by omega) (by omega) f2
      · rw [if_neg (fun r => c1 ((nI_eq (by omega) (by omega)).mp r)), gd_t g10]
        by_cases c2 : Nat.testBit f (T 6 k) = true
        · rw [if_pos ((bit_1 hf (by omega)).mpr c2), if_pos (Or.inr c2), if_neg (by decide), gd_t g10, x10, hl.1, es _ (by omega), nm_eq, nm_eq, nI_1]
          exact ih (k + 1) _ (by omega) (by omega) f2
        · rw [if_neg (fun r => c2 ((bit_1 hf (by omega)).mp r)), if_pos rfl, or_0, nm_eq, nm_eq, nI_1, if_neg (by rintro (r | r) <;> contradiction)]
          exact ih (k + 1) f (by omega) (by omega) hf
theorem m_srcL {h M : Nat} {T : zT} {s : zMem} (hr : rM s T) (hb : tBd M T) (hh : h < 6) : ∀ (m n x : Nat) (w : Int32), m < 10 → m + 1 < n → x < 2 ^ T 9 0 → w ≠ nI x → srcT T h (itS (srcT T h) m x) = itS (srcT T h) m x → f_X7_sourceOf_4 n (nI h) (nI x) w s = some (nI (itS (srcT T h) m x), s) := by
  intro m
  have h6 := hb.1
  have h10 := hb.2.1
  have h64 := pow_64 h6
  have one : ∀ (n x : Nat) (w : Int32), x < 2 ^ T 9 0 → w ≠ nI x → f_X7_sourceOf_4 (n + 1) (nI h) (nI x) w s = f_X7_sourceOf_4 n (nI h) (nI (srcT T h x)) (nI x) s := by
    intro n x w hx hw
    rw [f_X7_sourceOf_4, if_neg hw]
    exact m_srcP (c := fun x45 x46 x47 s48 => f_X7_sourceOf_4 n x45 x46 x47 s48) (y := nI x) hr hb hh zN 0 x (by omega) (by unfold zN; omega) (by omega)
  induction m with
  | zero =>
    intro n x w _ hn hx hw hfix
    cases n with
    | zero => omega
    | succ n =>
      have hf : srcT T h x = x := hfix
      rw [one n x w hx hw, hf]
      cases n with
      | zero => omega
      | succ n =>
        rw [f_X7_sourceOf_4, if_pos rfl]
        rfl
  | succ m ih =>
    intro n x w hm hn hx hw hfix
    cases n with
    | zero => omega
    | succ n =>
      rw [one n x w hx hw]
      by_cases c : srcT T h x = x
      · rw [c]
        have all : ∀ k, itS (srcT T h) k x = x := by
          intro k
          induction k with
          | zero => rfl
          | succ k ihk => show itS (srcT T h) k (srcT T h x) = x; rw [c, ihk]
        rw [all]
        cases n with
        | zero => omega
        | succ n => rw [f_X7_sourceOf_4, if_pos rfl]
      · exact ih n (srcT T h x) (nI x) (by omega) (by omega) (srcT_lt hb hx) (fun r => c ((nI_eq (by have := srcT_lt (h := h) hb hx; omega) (by omega)).mp r.symm)) hfix
theorem m_source {h M : Nat} {T : zT} {s : zMem} (hr : rM s T) (hb : tBd M T) (hh : h < 6) : f_X7_sourceOf (nI h) s = some (nI (srcV T h), s) :=
  m_srcL hr hb hh (T 9 0) zN 0 (-1) (by have := hb.1; omega) (by have := hb.1; unfold zN; omega) (Nat.pos_of_ne_zero (by simp)) (by decide) (srcV_fix hb)
theorem srcV_lt {M : Nat} {T : zT} {h : Nat} (hb : tBd M T) : srcV T h < 64 := Nat.lt_of_lt_of_le (itS_lt hb _ _ (Nat.pos_of_ne_zero (by simp))) (pow_64 hb.1)
theorem step_source (p : Int32) : stepOk (f_X6_source p) (f_X7_source p) := by
  refine step_r fun T U P K F z B Z s hx hc hm => ?_
  have h6 := hx.1.1
  unfold f_X6_source f_X7_source
  rw [k_hutP p hc.1.c0.1, bd_s, zif01, m_hutP p hm.1.c0.1 (by omega), bd_s, zif01]
  rcases ltP p (T 9 0) (by omega) with hn | ⟨h, hh, rfl⟩
  · exact ⟨_, by rw [if_neg hn], by rw [if_neg hn]⟩
  rw [if_pos (ltP_t hh (by omega)), if_pos (ltP_t hh (by omega))]
  exact ⟨nI (srcV T h), by rw [k_source hc.1 hx.1 (by omega), bd_s], by rw [m_source hm.1 hx.1 (by omega), bd_s]⟩
-- rings
def rngT (w : Nat) (T : zT) (h : Nat) : Int32 := if w = 0 then (if Nat.testBit (srcV T h) h = true then -1 else 0) else (if srcV T h = 0 ∧ fromT T h ≠ 0 then -1 else 0)
theorem fromT_lt {M : Nat} {T : zT} {h : Nat} (hb : tBd M T) : fromT T h < 2 ^ 31 := by
  have hg : ∀ n, tS (fun k => if T 5 k = h then 1 else 0) n ≤ n := by
    intro n
    induction n with
    | zero => exact Nat.le_refl _
    | succ n ih =>
      show tS _ n + (if T 5 n = h then 1 else 0) ≤ n + 1
      split <;> omega
  have := hg (T 9 1)
  have := hb.2.1
  unfold fromT
  omega
theorem k_rings {M w : Nat} {T : zT} {s : zMem} (hr : rC 9 s T) (hb : tBd M T) (hw : w ≤ 1) : ∀ (n i : Nat) (x : Int32), i ≤ T 9 0 → T 9 0 - i < n → f_X6_rings_16 n (nI w) x (nI i) s = some (bitF (rngT w T) (T 9 0 - i) i x, s) := by
  intro n
  induction n with
  | zero => intro i x _ hn; omega
  | succ n ih =>
    intro i x hi hn
    have h6 := hb.1
    rw [f_X6_rings_16, show s 9 9 = nI (T 9 0) from hr.c0.1]
    by_cases q : T 9 0 ≤ i
    · rw [if_pos (nI_le q (by omega)), show T 9 0 - i = 0 by omega]
      rfl
    · have hs := srcV_lt (h := i) hb
      rw [if_neg (nI_ge (by omega) (by omega)), k_source hr hb (by omega), bd_s, show T 9 0 - i = (T 9 0 - (i + 1)) + 1 by omega]
      unfold bitF
      rcases (by omega : w = 0 ∨ w = 1) with rfl | rfl
      · rw [if_pos (show nI 0 = 0 from rfl), k_has hs (by omega), bd_s, zif01]
        by_cases c : Nat.testBit (srcV T i) i = true
        · have e : rngT 0 T i = -1 := by unfold rngT; rw [if_pos rfl, if_pos c]
          rw [if_pos c, if_pos e, nm_eq, nm_eq, nI_1]
          exact ih (i + 1) _ (by omega) (by omega)
        · have e : rngT 0 T i = 0 := by unfold rngT; rw [if_pos rfl, if_neg c]
          rw [if_neg c, e, if_neg (by decide), nm_eq, nI_1]
          exact ih (i + 1) _ (by omega) (by omega)
      · have hf := fromT_lt (h := i) hb
        rw [if_neg (show ¬ nI 1 = 0 by decide)]
        by_cases c0 : srcV T i = 0
        · rw [if_pos (show nI (srcV T i) = 0 by rw [c0]; rfl), k_from hr hb (by omega), bd_s, zif_le0 hf]
          by_cases c1 : fromT T i = 0
          · have e : rngT 1 T i = 0 := by unfold rngT; rw [if_neg (by omega), if_neg (fun r => r.2 c1)]
            rw [if_pos c1, e, if_neg (by decide), nm_eq, nI_1]
            exact ih (i + 1) _ (by omega) (by omega)
          · have e : rngT 1 T i = -1 := by unfold rngT; rw [if_neg (by omega), if_pos ⟨c0, c1⟩]
            rw [if_neg c1, if_pos e, nm_eq, nm_eq, nI_1]
            exact ih (i + 1) _ (by omega) (by omega)
        · have e : rngT 1 T i = 0 := by unfold rngT; rw [if_neg (by omega), if_neg (fun r => c0 r.1)]
          rw [if_neg (show ¬ nI (srcV T i) = 0 from nI_ne0 (by omega) (by omega)), e, if_neg (by decide), nm_eq, nI_1]
          exact ih (i + 1) _ (by omega) (by omega)
theorem m_rings {M w : Nat} {T : zT} {s : zMem} (hr : rM s T) (hb : tBd M T) (hw : w ≤ 1) : ∀ (n i : Nat) (x : Int32), i ≤ T 9 0 → T 9 0 - i < n → f_X7_rings_16 n (nI w) x (nI i) s = some (bitF (rngT w T) (T 9 0 - i) i x, s) := by
  intro n
  induction n with
  | zero => intro i x _ hn; omega
  | succ n ih =>
    intro i x hi hn
    have h6 := hb.1
    rw [f_X7_rings_16, hr.c0.1]
    by_cases q : T 9 0 ≤ i
    · rw [if_pos (nI_le q (by omega)), show T 9 0 - i = 0 by omega]
      rfl
    · have hs := srcV_lt (h := i) hb
      rw [if_neg (nI_ge (by omega) (by omega)), m_source hr hb (by omega), bd_s, show T 9 0 - i = (T 9 0 - (i + 1)) + 1 by omega]
      unfold bitF
      rcases (by omega : w = 0 ∨ w = 1) with rfl | rfl
      · rw [if_pos (show nI 0 = 0 from rfl)]
        by_cases c : Nat.testBit (srcV T i) i = true
        · have e : rngT 0 T i = -1 := by unfold rngT; rw [if_pos rfl, if_pos c]
          rw [if_pos ((bit_1 hs (by omega)).mpr c), if_pos e, nm_eq, nm_eq, nI_1]
          exact ih (i + 1) _ (by omega) (by omega)
        · have e : rngT 0 T i = 0 := by unfold rngT; rw [if_pos rfl, if_neg c]
          rw [if_neg (fun r => c ((bit_1 hs (by omega)).mp r)), e, if_neg (by decide), or_0, nm_eq, nm_eq, nI_1]
          exact ih (i + 1) _ (by omega) (by omega)
      · have hf := fromT_lt (h := i) hb
        rw [if_neg (show ¬ nI 1 = 0 by decide)]
        by_cases c0 : srcV T i = 0
        · rw [if_pos (show nI (srcV T i) = 0 by rw [c0]; rfl), m_from hr hb (by omega), bd_s, zif_le0 hf]
          by_cases c1 : fromT T i = 0
          · have e : rngT 1 T i = 0 := by unfold rngT; rw [if_neg (by omega), if_neg (fun r => r.2 c1)]
            rw [if_pos c1, e, if_neg (by decide), or_0, nm_eq, nm_eq, nI_1]
            exact ih (i + 1) _ (by omega) (by omega)
          · have e : rngT 1 T i = -1 := by unfold rngT; rw [if_neg (by omega), if_pos ⟨c0, c1⟩]
            rw [if_neg c1, if_pos e, nm_eq, nm_eq, nI_1]
            exact ih (i + 1) _ (by omega) (by omega)
        · have e : rngT 1 T i = 0 := by unfold rngT; rw [if_neg (by omega), if_neg (fun r => c0 r.1)]
          rw [if_neg (show ¬ nI (srcV T i) = 0 from nI_ne0 (by omega) (by omega)), e, if_neg (by decide), or_0, nm_eq, nm_eq, nI_1]
          exact ih (i + 1) _ (by omega) (by omega)
theorem step_rings (p : Int32) : stepOk (f_X6_rings p) (f_X7_rings p) := by
  refine step_r fun T U P K F z B Z s hx hc hm => ?_
  have h6 := hx.1.1
  unfold f_X6_rings f_X7_rings
  rw [k_isFromTo, bd_s, zif01, k_in, bd_s, zif01]
  by_cases c : 0 ≤ p ∧ p ≤ 1
  · obtain ⟨w, hw, rfl⟩ := (pk_in2 p 1 (by omega)).resolve_left (fun r => r c)
    rw [if_pos c, if_pos c]
    exact ⟨_, k_rings hc.1 hx.1 hw zN 0 0 (by omega) (by unfold zN; omega), m_rings hm.1 hx.1 hw zN 0 0 (by omega) (by unfold zN; omega)⟩
  · rw [if_neg c, if_neg c]
    exact ⟨_, rfl, rfl⟩

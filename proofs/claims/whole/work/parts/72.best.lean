-- questions over nights: needs
def needF (E : zEv) (h m : Nat) (T : zT) : Nat → Nat → Int32
  | 0, _ => -1
  | r + 1, i => if Nat.testBit (nightsT E m 0 (tU T 1 h i)).1 h = true then needF E h m T r (i + 1) else nI i
theorem k_needs {E : zEv} {K h m : Nat} {T : zT} (hm : m ≤ 40) (hh : h < T 9 0) : ∀ (n i : Nat) (s : zMem), kOk E K 999 9 s T → i ≤ 100 → 100 - i < n → ∃ S, f_X6_needs_29 n (nI h) (nI m) (nI i) s = some (needF E h m T (100 - i) i, S) := by
  intro n
  induction n with
  | zero => intro i s _ _ hn; omega
  | succ n ih =>
    intro i s o hi hn
    have h6 := o.2.2.1.1
    rw [f_X6_needs_29]
    by_cases c : 99 < i
    · rw [if_pos (show (99 : Int32) < nI i from nI_lt (a := 99) c (by omega)), show 100 - i = 0 by omega]
      exact ⟨s, rfl⟩
    · obtain ⟨S1, e1, o1⟩ := k_think o
      have o2 : kOk E K 999 20 (zUp S1 22 h (nI i)) (tU T 1 h i) := o1.fr (o1.2.1.up (j := 1) (by omega) h i) (o1.2.2.1.up (by omega) (by omega)) (tU_off (by omega)) (fun q k hq => zUp_off (by omega))
      obtain ⟨S3, e3⟩ := k_failed (m := m) o2 (by omega) (by omega)
      have hf := (nightsT_bd (E := E) m 0 999 _ o2.2.2.1 (by omega) (by omega)).1
      rw [if_neg (show ¬ (99 : Int32) < nI i from nI_nlt (a := 99) (by omega) (by omega)), e1, bd_s, gd_t (zib_nI (by omega) (by decide)), zix_nI (by omega), nm_eq, e3, bd_s, k_has hf (by omega), bd_s, zif01, show 100 - i = (100 - (i + 1)) + 1 by omega]
      unfold needF
      by_cases b : Nat.testBit (nightsT E m 0 (tU T 1 h i)).1 h = true
      · rw [if_pos b, if_pos b, nm_eq, nI_1]
        refine ih (i + 1) S3 (k_now o (fun a k h1 h2 => ?_)) (by omega) (by omega)
        have q3 := fr_X5_failedIn a k (by omega) rfl _ S3 e3
        have q1 := fr_X6_think a k (by omega) rfl _ S1 e1
        rw [q3, zUp_off (by omega), q1]
      · rw [if_neg b, if_neg b]
        exact ⟨S3, rfl⟩
theorem m_needs {E : zEv} {K h m : Nat} {T : zT} (hm : m ≤ 40) (hh : h < T 9 0) : ∀ (n i : Nat) (s : zMem), mOk E K 999 s T → i ≤ 100 → 100 - i < n → ∃ S, f_X7_needs_26 n (nI h) (nI m) (nI i) s = some (needF E h m T (100 - i) i, S) ∧ ∀ a k, cM a k → S a k = s a k := by
  intro n
  induction n with
  | zero => intro i s _ _ hn; omega
  | succ n ih =>
    intro i s o hi hn
    have h6 := o.2.1.1
    rw [f_X7_needs_26]
    by_cases c : 99 < i
    · rw [if_pos (show (99 : Int32) < nI i from nI_lt (a := 99) c (by omega)), show 100 - i = 0 by omega]
      exact ⟨s, rfl, fun _ _ _ => rfl⟩
    · obtain ⟨S1, e1, o1, k1, _⟩ := m_open o
      have o2 : mOk E K 999 (zUp S1 50 (3 * h + 1) (nI i)) (tU T 1 h i) := o1.fr (o1.1.u1 h i) (o1.2.1.up (by omega) (by omega)) (tU_off (by omega)) (fun q k hq => zUp_off (by omega))
      have k2 : WK s (zUp S1 50 (3 * h + 1) (nI i)) := k1.fr (fun a k hk => zUp_off (by omega))
      obtain ⟨S3, e3, _⟩ := m_goes (m := m) o2 (by omega) (by omega)
      have hf := (nightsT_bd (E := E) m 0 999 _ o2.2.1 (by omega) (by omega)).1
      obtain ⟨S4, e4, f4⟩ := m_close (k2.fr (fr_goes e3))
      rw [if_neg (show ¬ (99 : Int32) < nI i from nI_nlt (a := 99) (by omega) (by omega)), e1, bd_s, n3m1, gd_t (zib_nI (by omega) (by decide)), zix_nI (by omega), nm_eq, e3, bd_s, e4, bd_s, show 100 - i = (100 - (i + 1)) + 1 by omega]
      unfold needF
      by_cases b : Nat.testBit (nightsT E m 0 (tU T 1 h i)).1 h = true
      · rw [if_neg (fun r => (bit_0 hf (by omega)).mp r b), if_pos b, nm_eq, nI_1]
        obtain ⟨S, e, f⟩ := ih (i + 1) S4 (m_now o f4) (by omega) (by omega)
        exact ⟨S, e, fun a k hk => by rw [f a k hk, f4 a k hk]⟩
      · rw [if_pos ((bit_0 hf (by omega)).mpr b), if_neg b]
        exact ⟨S4, rfl, f4⟩
theorem step_needs (p w : Int32) : stepOk (f_X6_needs p w) (f_X7_needs p w) := by
  refine step_q (fun a k v s hk e => fr_X6_needs a k (by unfold cC at hk; omega) e) (fun a k v s hk e => fr_X7_needs a k (by omega) e) ?_
  intro T U P K F z B Z s hx hc
  have h6 := hx.1.1
  have e1 : f_X6_needs p w s = (if 0 ≤ p ∧ p < nI (T 9 0) then if 0 ≤ w ∧ w ≤ 40 then f_X6_needs_29 zN p w 0 s else some (-7, s) else some (-5, s)) := by
    unfold f_X6_needs
    rw [k_hutP p hc.1.c0.1, bd_s, zif01, k_isFromTo, bd_s, zif01]
  have e2 : ∀ S, zRM T U P K F z B Z S → f_X7_needs p w S = (if 0 ≤ p ∧ p < nI (T 9 0) then if 0 ≤ w ∧ w ≤ 40 then f_X7_needs_26 zN p w 0 S else some (-7, S) else some (-5, S)) := by
    intro S hm
    unfold f_X7_needs
    rw [m_hutP p hm.1.c0.1 (by omega), bd_s, zif01, k_in, bd_s, zif01]
  rcases ltP p (T 9 0) (by omega) with hn | ⟨h, hh, rfl⟩
  · exact ⟨-5, s, by rw [e1, if_neg hn], fun S hm => ⟨S, by rw [e2 S hm, if_neg hn], fun _ _ _ => rfl⟩⟩
  have th := ltP_t hh (n := T 9 0) (by omega)
  rcases in_2 w 40 (by omega) with hn | ⟨j, hj, rfl⟩
  · exact ⟨-7, s, by rw [e1, if_pos th]; exact if_neg hn, fun S hm => ⟨S, by rw [e2 S hm, if_pos th]; exact if_neg hn, fun _ _ _ => rfl⟩⟩
  have tj : (0 : Int32) ≤ nI j ∧ nI j ≤ 40 := inP_t (n := 40) hj (by omega)
  obtain ⟨S1, d1⟩ := k_needs (m := j) hj hh zN 0 s (hc.kOk hx) (by omega) (by unfold zN; omega)
  refine ⟨needF (evP P) h j T 100 0, S1, by rw [e1, if_pos th, if_pos tj]; exact d1, fun S hm => ?_⟩
  obtain ⟨S2, d2, f2⟩ := m_needs (m := j) hj hh zN 0 S (hm.mOk hx) (by omega) (by unfold zN; omega)
  exact ⟨S2, by rw [e2 S hm, if_pos th, if_pos tj]; exact d2, f2⟩
-- mercy
def mercV (E : zEv) (n : Nat) (T : zT) : Nat := pc (nightsT E n 0 T).1
def mercF (E : zEv) (n : Nat) (T : zT) : Nat → Nat → Int32 → Nat → Int32 × Nat
  | 0, _, b, f => (b, f)
  | r + 1, k, b, f => if f ≤ mercV E n (dropT k T) then mercF E n T r (k + 1) b f else mercF E n T r (k + 1) (nI k) (mercV E n (dropT k T))
theorem pc_le (f : Nat) : pc f ≤ 6 := by
  unfold pc
  have h : ∀ (g : Nat → Nat) (n : Nat), (∀ i, g i ≤ 1) → tS g n ≤ n := by
    intro g n hg
    induction n with
    | zero => exact Nat.le_refl _
    | succ n ih =>
      show tS g n + g n ≤ n + 1
      have := hg n
      omega
  exact h _ 6 (fun i => by split <;> omega)
theorem k_mercy {E : zEv} {K m : Nat} {T : zT} {c : Int32 → Int32 → Int32 → zMem → Option (Int32 × zMem)} {x : Int32} (hm : m ≤ 40) : ∀ (n i f : Nat) (b : Int32) (s : zMem), kOk E K 999 9 s T → i ≤ T 9 1 → T 9 1 - i < n → f ≤ 6 → ∃ S, f_X6_mercy_40 c n (nI m) x b (nI f) (nI i) s = c x (mercF E m T (T 9 1 - i) i b f).1 (nI (mercF E m T (T 9 1 - i) i b f).2) S := by
  intro n
  induction n with
  | zero => intro i f b s _ _ hn; omega
  | succ n ih =>
    intro i f b s o hi hn hf6
    have h10 := o.2.2.1.2.1
    rw [f_X6_mercy_40, show s 9 10 = nI (T 9 1) from o.2.1.c0.2.1]
    by_cases q : T 9 1 ≤ i
    · rw [if_pos (nI_le q (by omega)), show T 9 1 - i = 0 by omega]
      exact ⟨s, rfl⟩
    · obtain ⟨S1, e1, o1⟩ := k_think o
      obtain ⟨S2, e2, o2⟩ := k_drop o1 (k := i) (by omega)
      obtain ⟨S3, e3⟩ := k_failed (m := m) o2 (by omega) (by omega)
      have hf := (nightsT_bd (E := E) m 0 999 _ o2.2.2.1 (by omega) (by omega)).1
      have hp := pc_le (nightsT E m 0 (dropT i T)).1
      have now : kOk E K 999 9 S3 T := k_now o (fun a k h1 h2 => by
        have q3 := fr_X5_failedIn a k (by omega) rfl _ S3 e3
        have q2 := fr_X5_drop a k (by omega) rfl _ S2 e2
        have q1 := fr_X6_think a k (by omega) rfl _ S1 e1
        rw [q3, q2, q1])
      rw [if_neg (nI_ge (by omega) (by omega)), e1, bd_s, e2, bd_s, e3, bd_s, k_bc hf, bd_s, show T 9 1 - i = (T 9 1 - (i + 1)) + 1 by omega]
      unfold mercF mercV
      by_cases le : f ≤ pc (nightsT E m 0 (dropT i T)).1
      · rw [if_pos (nI_le le (by omega)), if_pos le, nm_eq, nI_1]
        exact ih (i + 1) f b S3 now (by omega) (by omega) hf6
      · rw [if_neg (nI_ge (by omega) (by omega)), if_neg le, nm_eq, nI_1]
        exact ih (i + 1) _ (nI i) S3 now (by omega) (by omega) hp
theorem m_fails {E : zEv} {K m : Nat} {s : zMem} {T : zT} (o : mOk E K 999 s T) (hm : m ≤ 40) : (∃ S, f_X7_failsBut (-1) (nI m) s = some (nI (mercV E m T), S) ∧ ∀ a k, cM a k → S a k = s a k) ∧ ∀ i, i < T 9 1 → ∃ S, f_X7_failsBut (nI i) (nI m) s = some (nI (mercV E m (dropT i T)), S) ∧ ∀ a k, cM a k → S a k = s a k := by
  obtain ⟨S1, e1, o1, k1, _⟩ := m_open o
  have h10 := o.2.1.2.1
  refine ⟨?_, fun i hi => ?_⟩
  · obtain ⟨S3, e3, _⟩ := m_goes (m := m) o1 (by omega) (by omega)
    have hf := (nightsT_bd (E := E) m 0 999 _ o1.2.1 (by omega) (by omega)).1
    obtain ⟨S4, e4, f4⟩ := m_close (k1.fr (fr_goes e3))
    unfold f_X7_failsBut
    rw [e1, bd_s, if_pos rfl, e3, bd_s, m_ones hf, bd_s, e4, bd_s]
    exact ⟨S4, rfl, f4⟩
  · obtain ⟨S2, e2, o2⟩ := m_drop o1 hi
    have k2 : WK s S2 := k1.fr (fun a k hk => fr_X7_drops a k (by omega) rfl _ S2 e2)
    obtain ⟨S3, e3, _⟩ := m_goes (m := m) o2 (by omega) (by omega)
    have hf := (nightsT_bd (E := E) m 0 999 _ o2.2.1 (by omega) (by omega)).1
    obtain ⟨S4, e4, f4⟩ := m_close (k2.fr (fr_goes e3))
    unfold f_X7_failsBut
    rw [e1, bd_s, if_neg (nIm1 (by omega)), e2, bd_s, e3, bd_s, m_ones hf, bd_s, e4, bd_s]
    exact ⟨S4, rfl, f4⟩
theorem m_mercy {E : zEv} {K m : Nat} {T : zT} {c : Int32 → Int32 → Int32 → zMem → Option (Int32 × zMem)} {x : Int32} (hm : m ≤ 40) : ∀ (n i f : Nat) (b : Int32) (s : zMem), mOk E K 999 s T → i ≤ T 9 1 → T 9 1 - i < n → f ≤ 6 → ∃ S, f_X7_mercy_35 c n (nI m) x b (nI f) (nI i) s = c x (mercF E m T (T 9 1 - i) i b f).1 (nI (mercF E m T (T 9 1 - i) i b f).2) S ∧ ∀ a k, cM a k → S a k = s a k := by
  intro n
  induction n with
  | zero => intro i f b s _ _ hn; omega
  | succ n ih =>
    intro i f b s o hi hn hf6
    have h10 := o.2.1.2.1
    rw [f_X7_mercy_35, o.1.c0.2.1]
    by_cases q : T 9 1 ≤ i
    · rw [if_pos (nI_le q (by omega)), show T 9 1 - i = 0 by omega]
      exact ⟨s, rfl, fun _ _ _ => rfl⟩
    · obtain ⟨S3, e3, f3⟩ := (m_fails o hm).2 i (by omega)
      have hp : mercV E m (dropT i T) ≤ 6 := pc_le _
      rw [if_neg (nI_ge (by omega) (by omega)), e3, bd_s, show T 9 1 - i = (T 9 1 - (i + 1)) + 1 by omega]
      unfold mercF
      by_cases le : f ≤ mercV E m (dropT i T)
      · rw [if_pos (nI_le le (by omega)), if_pos (nI_le le (by omega)), if_pos le, nm_eq, nI_1]
        obtain ⟨S, e, g⟩ := ih (i + 1) f b S3 (m_now o f3) (by omega) (by omega) hf6
        exact ⟨S, e, fun a k hk => by rw [g a k hk, f3 a k hk]⟩
      · rw [if_neg (nI_ge (by omega) (by omega)), if_neg (nI_ge (by omega) (by omega)), if_neg le, nm_eq, nI_1]
        obtain ⟨S, e, g⟩ := ih (i + 1) _ (nI i) S3 (m_now o f3) (by omega) (by omega) hp
        exact ⟨S, e, fun a k hk => by rw [g a k hk, f3 a k hk]⟩
theorem ite_out {x : Int32} {A B : Int32} {s : zMem} : (if x = 0 then some (A, s) else some (B, s)) = some (if x = 0 then A else B, s) := by
  split <;> rfl
theorem step_mercy (p w : Int32) : stepOk (f_X6_mercy p w) (f_X7_mercy p w) := by
  refine step_q (fun a k v s hk e => fr_X6_mercy a k (by unfold cC at hk; omega) e) (fun a k v s hk e => fr_X7_mercy a k (by omega) e) ?_
  intro T U P K F z B Z s hx hc
  have ok := hc.kOk hx
  have e1 : f_X6_mercy p w s = (if 0 ≤ p ∧ p ≤ 40 then if 0 ≤ w ∧ w ≤ 1 then (bd (f_X6_think s) fun _ s6 => bd (f_X5_failedIn 20 p s6) fun r7 s8 => bd (f_J6_bitCount_0f7a4 r7 s8) fun r9 s10 => f_X6_mercy_40 (fun x27 x28 x29 s30 => if x27 = 0 then some (x28, s30) else some (x29, s30)) zN p w (-1) r9 0 s10) else some (-2, s) else some (-2, s)) := by
    unfold f_X6_mercy
    rw [k_isFromTo, bd_s, zif01, k_isFromTo, bd_s, zif01]
  have e2 : ∀ S, f_X7_mercy p w S = (if 0 ≤ p ∧ p ≤ 40 then if 0 ≤ w ∧ w ≤ 1 then (bd (f_X7_failsBut (-1) p S) fun r5 s6 => f_X7_mercy_35 (fun x19 x20 x21 s22 => if x19 = 0 then some (x20, s22) else some (x21, s22)) zN p w (-1) r5 0 s6) else some (-2, S) else some (-2, S)) := by
    intro S
    unfold f_X7_mercy
    rw [k_in, bd_s, zif01, k_in, bd_s, zif01]
  by_cases c1 : 0 ≤ p ∧ p ≤ 40
  case neg => exact ⟨-2, s, by rw [e1, if_neg c1], fun S hm => ⟨S, by rw [e2, if_neg c1], fun _ _ _ => rfl⟩⟩
  by_cases c2 : 0 ≤ w ∧ w ≤ 1
  case neg => exact ⟨-2, s, by rw [e1, if_pos c1, if_neg c2], fun S hm => ⟨S, by rw [e2, if_pos c1, if_neg c2], fun _ _ _ => rfl⟩⟩
  rw [if_pos c1, if_pos c2] at e1
  obtain ⟨m, hm, rfl⟩ := (pk_in2 p 40 (by omega)).resolve_left (fun r => r c1)
  obtain ⟨S1, t1, o1⟩ := k_think ok
  obtain ⟨S2, t2⟩ := k_failed (m := m) o1 (by omega) (by omega)
  have hf := (nightsT_bd (E := evP P) m 0 999 _ hx.1 (by omega) (by omega)).1
  have now : kOk (evP P) K 999 9 S2 T := k_now ok (fun a k h1 h2 => by
    have q3 := fr_X5_failedIn a k (by omega) rfl _ S2 t2
    have q1 := fr_X6_think a k (by omega) rfl _ S1 t1
    rw [q3, q1])
  have h10 := hx.1.2.1
  have hp : mercV (evP P) m T ≤ 6 := pc_le _
  obtain ⟨S3, d3⟩ := k_mercy (c := fun x27 x28 x29 s30 => if x27 = 0 then some (x28, s30) else some (x29, s30)) (x := w) hm zN 0 (mercV (evP P) m T) (-1) S2 now (by omega) (by unfold zN; omega) hp
  refine ⟨if w = 0 then (mercF (evP P) m T (T 9 1) 0 (-1) (mercV (evP P) m T)).1 else nI (mercF (evP P) m T (T 9 1) 0 (-1) (mercV (evP P) m T)).2, S3, ?_, fun S hmm => ?_⟩
  · rw [e1, t1, bd_s, t2, bd_s, k_bc hf, bd_s]
    exact d3.trans ite_out
  · obtain ⟨S4, e4, f4⟩ := (m_fails (hmm.mOk hx) hm).1
    obtain ⟨S5, d5, f5⟩ := m_mercy (c := fun x27 x28 x29 s30 => if x27 = 0 then some (x28, s30) else some (x29, s30)) (x := w) hm zN 0 (mercV (evP P) m T) (-1) S4 (m_now (hmm.mOk hx) f4) (by omega) (by unfold zN; omega) hp
    refine ⟨S5, ?_, fun a k hk => by rw [f5 a k hk, f4 a k hk]⟩
    rw [e2, if_pos c1, if_pos c2, e4, bd_s]
    exact d5.trans ite_out
-- worst
def worV (E : zEv) (n : Nat) (T : zT) (h : Nat) : Int32 := nI (heatT (nightsT E n 0 (tU (tU T 0 h 0) 1 h 0)).2) - nI ((nightsT E n 0 (tU (tU T 0 h 0) 1 h 0)).2 0 h)
def worF (E : zEv) (n : Nat) (T : zT) : Nat → Nat → Int32 → Int32 → Int32 × Int32
  | 0, _, b, l => (b, l)
  | r + 1, h, b, l => if b = -1 then worF E n T r (h + 1) (nI h) (worV E n T h) else if l ≤ worV E n T h then worF E n T r (h + 1) b l else worF E n T r (h + 1) (nI h) (worV E n T h)
theorem k_without {E : zEv} {K m h : Nat} {s : zMem} {T : zT} (o : kOk E K 999 9 s T) (hm : m ≤ 40) (hh : h < T 9 0) : ∃ S, f_X6_heatOfOthersWithout (nI h) (nI m) s = some (worV E m T h, S) := by
  have h6 := o.2.2.1.1
  obtain ⟨S1, e1, o1⟩ := k_think o
  have o2 : kOk E K 999 20 (zUp S1 21 h (nI 0)) (tU T 0 h 0) := o1.fr (o1.2.1.up (j := 0) (by omega) h 0) (o1.2.2.1.up (by omega) (by omega)) (tU_off (by omega)) (fun q k hq => zUp_off (by omega))
  have o3 : kOk E K 999 20 (zUp (zUp S1 21 h (nI 0)) 22 h (nI 0)) (tU (tU T 0 h 0) 1 h 0) := o2.fr (o2.2.1.up (j := 1) (by omega) h 0) (o2.2.2.1.up (by omega) (by omega)) (tU_off (by omega)) (fun q k hq => zUp_off (by omega))
  obtain ⟨S4, e4, o4⟩ := k_nights (m := m) o3 (by omega) (by omega)
  have n9 : h < (nightsT E m 0 (tU (tU T 0 h 0) 1 h 0)).2 9 0 := by rw [nightsT_9, tU_off (by omega), tU_off (by omega)]; exact hh
  have c4 : S4 21 h = nI ((nightsT E m 0 (tU (tU T 0 h 0) 1 h 0)).2 0 h) := (o4.2.1.ch n9).1
  unfold f_X6_heatOfOthersWithout worV
  rw [e1, bd_s, gd_t (zib_nI (by omega) (by decide)), zix_nI (by omega), nm_eq, gd_t (zib_nI (by omega) (by decide)), nm_eq, show (0 : Int32) = nI 0 from rfl, e4, bd_s, k_heat o4.2.1 o4.2.2.1, bd_s, gd_t (zib_nI (by omega) (by decide)), c4]
  exact ⟨S4, rfl⟩
theorem k_worst {E : zEv} {K m : Nat} {T : zT} {c : Int32 → Int32 → Int32 → zMem → Option (Int32 × zMem)} {x : Int32} (hm : m ≤ 40) : ∀ (n i : Nat) (b l : Int32) (s : zMem), kOk E K 999 9 s T → i ≤ T 9 0 → T 9 0 - i < n → ∃ S, f_X6_worst_30 c n (nI m) x b l (nI i) s = c x (worF E m T (T 9 0 - i) i b l).1 (worF E m T (T 9 0 - i) i b l).2 S := by
  intro n
  induction n with
  | zero => intro i b l s _ _ hn; omega
  | succ n ih =>
    intro i b l s o hi hn
    have h6 := o.2.2.1.1
    rw [f_X6_worst_30, show s 9 9 = nI (T 9 0) from o.2.1.c0.1]
    by_cases q : T 9 0 ≤ i
    · rw [if_pos (nI_le q (by omega)), show T 9 0 - i = 0 by omega]
      exact ⟨s, rfl⟩
    · obtain ⟨S3, e3⟩ := k_without o hm (h := i) (by omega)
      have now : kOk E K 999 9 S3 T := k_now o (fun a k h1 h2 => fr_X6_heatOfOthersWithout a k (by omega) rfl _ S3 e3)
      rw [if_neg (nI_ge (by omega) (by omega)), e3, bd_s, show T 9 0 - i = (T 9 0 - (i + 1)) + 1 by omega]
      unfold worF
      by_cases c1 : b = -1
      · rw [if_pos c1, if_pos c1, nm_eq, nI_1]
        exact ih (i + 1) _ _ S3 now (by omega) (by omega)
      · rw [if_neg c1, if_neg c1]
        by_cases c2 : l ≤ worV E m T i
        · rw [if_pos c2, if_pos c2, nm_eq, nI_1]
          exact ih (i + 1) _ _ S3 now (by omega) (by omega)
        · rw [if_neg c2, if_neg c2, nm_eq, nI_1]
          exact ih (i + 1) _ _ S3 now (by omega) (by omega)
theorem m_worst {E : zEv} {K m : Nat} {T : zT} {c : Int32 → Int32 → Int32 → zMem → Option (Int32 × zMem)} {x : Int32} (hm : m ≤ 40) : ∀ (n i : Nat) (b l : Int32) (s : zMem), mOk E K 999 s T → i ≤ T 9 0 → T 9 0 - i < n → ∃ S, f_X7_worst_30 c n (nI m) x b l (nI i) s = c x (worF E m T (T 9 0 - i) i b l).1 (worF E m T (T 9 0 - i) i b l).2 S ∧ ∀ a k, cM a k → S a k = s a k := by
  intro n
  induction n with
  | zero => intro i b l s _ _ hn; omega
  | succ n ih =>
    intro i b l s o hi hn
    have h6 := o.2.1.1
    rw [f_X7_worst_30, o.1.c0.1]
    by_cases q : T 9 0 ≤ i
    · rw [if_pos (nI_le q (by omega)), show T 9 0 - i = 0 by omega]
      exact ⟨s, rfl, fun _ _ _ => rfl⟩
    · obtain ⟨S1, e1, o1, k1, _⟩ := m_open o
      have o2 : mOk E K 999 (zUp S1 50 (3 * i) (nI 0)) (tU T 0 i 0) := o1.fr (o1.1.u0 i 0) (o1.2.1.up (by omega) (by omega)) (tU_off (by omega)) (fun q k hq => zUp_off (by omega))
      have o3 : mOk E K 999 (zUp (zUp S1 50 (3 * i) (nI 0)) 50 (3 * i + 1) (nI 0)) (tU (tU T 0 i 0) 1 i 0) := o2.fr (o2.1.u1 i 0) (o2.2.1.up (by omega) (by omega)) (tU_off (by omega)) (fun q k hq => zUp_off (by omega))
      have k3 : WK s (zUp (zUp S1 50 (3 * i) (nI 0)) 50 (3 * i + 1) (nI 0)) := k1.fr (fun a k hk => by rw [zUp_off (by omega), zUp_off (by omega)])
      obtain ⟨S4, e4, o4⟩ := m_goes (m := m) o3 (by omega) (by omega)
      have n9 : i < (nightsT E m 0 (tU (tU T 0 i 0) 1 i 0)).2 9 0 := by rw [nightsT_9, tU_off (by omega), tU_off (by omega)]; omega
      obtain ⟨S5, e5, f5⟩ := m_close (k3.fr (fr_goes e4))
      have ev : nI (heatT (nightsT E m 0 (tU (tU T 0 i 0) 1 i 0)).2) - nI ((nightsT E m 0 (tU (tU T 0 i 0) 1 i 0)).2 0 i) = worV E m T i := rfl
      rw [if_neg (nI_ge (by omega) (by omega)), e1, bd_s, n3m, nI_1, gd_t (zib_nI (by omega) (by decide)), zix_nI (by omega), nm_eq, gd_t (zib_nI (by omega) (by decide)), zix_nI (by omega), nm_eq, show (0 : Int32) = nI 0 from rfl, e4, bd_s, m_heat o4.1 o4.2.1, bd_s, gd_t (zib_nI (by omega) (by decide)), (o4.1.ch n9).1, ev, nm_eq, e5, bd_s, show T 9 0 - i = (T 9 0 - (i + 1)) + 1 by omega]
      have go : ∀ b2 l2 : Int32, ∃ S, f_X7_worst_30 c n (nI m) x b2 l2 (nI (i + 1)) S5 = c x (worF E m T (T 9 0 - (i + 1)) (i + 1) b2 l2).1 (worF E m T (T 9 0 - (i + 1)) (i + 1) b2 l2).2 S ∧ ∀ a k, cM a k → S a k = s a k := by
        intro b2 l2
        obtain ⟨S, e, g⟩ := ih (i + 1) b2 l2 S5 (m_now o f5) (by omega) (by omega)
        exact ⟨S, e, fun a k hk => by rw [g a k hk, f5 a k hk]⟩
      unfold worF
      by_cases c1 : b = -1
      · rw [if_pos c1, if_pos c1]
        unfold f_X7_worst_103 f_X7_worst_108
        rw [if_neg (by decide), if_neg (by decide), nm_eq, nI_1]
        exact go _ _
      · rw [if_neg c1, if_neg c1]
        by_cases c2 : l ≤ worV E m T i
        · rw [if_pos c2, if_pos c2]
          unfold f_X7_worst_108
          rw [if_pos (show nI 0 = 0 from rfl), if_pos (show nI 0 = 0 from rfl), nm_eq, nI_1]
          exact go _ _
        · rw [if_neg c2, if_neg c2]
          unfold f_X7_worst_103 f_X7_worst_108
          rw [if_neg (by decide), if_neg (by decide), nm_eq, nI_1]
          exact go _ _
theorem step_worst (p w : Int32) : stepOk (f_X6_worst p w) (f_X7_worst p w) := by
  refine step_q (fun a k v s hk e => fr_X6_worst a k (by unfold cC at hk; omega) e) (fun a k v s hk e => fr_X7_worst a k (by omega) e) ?_
  intro T U P K F z B Z s hx hc
  have h6 := hx.1.1
  have e1 : f_X6_worst p w s = (if 0 ≤ p ∧ p ≤ 40 then if 0 ≤ w ∧ w ≤ 1 then (f_X6_worst_30 (fun x16 x17 x18 s19 => if x16 = 0 then some (x17, s19) else some (x18, s19)) zN p w (-1) (-1) 0 s) else some (-2, s) else some (-2, s)) := by
    unfold f_X6_worst
    rw [k_isFromTo, bd_s, zif01, k_isFromTo, bd_s, zif01]
  have e2 : ∀ S, f_X7_worst p w S = (if 0 ≤ p ∧ p ≤ 40 then if 0 ≤ w ∧ w ≤ 1 then (f_X7_worst_30 (fun x65 x66 x67 s68 => if x65 = 0 then some (x66, s68) else some (x67, s68)) zN p w (-1) (-1) 0 S) else some (-2, S) else some (-2, S)) := by
    intro S
    unfold f_X7_worst
    rw [k_in, bd_s, zif01, k_in, bd_s, zif01]
  by_cases c1 : 0 ≤ p ∧ p ≤ 40
  case neg => exact ⟨-2, s, by rw [e1, if_neg c1], fun S hm => ⟨S, by rw [e2, if_neg c1], fun _ _ _ => rfl⟩⟩
  by_cases c2 : 0 ≤ w ∧ w ≤ 1
  case neg => exact ⟨-2, s, by rw [e1, if_pos c1, if_neg c2], fun S hm => ⟨S, by rw [e2, if_pos c1, if_neg c2], fun _ _ _ => rfl⟩⟩
  rw [if_pos c1, if_pos c2] at e1
  obtain ⟨m, hm, rfl⟩ := (pk_in2 p 40 (by omega)).resolve_left (fun r => r c1)
  obtain ⟨S3, d3⟩ := k_worst (c := fun x27 x28 x29 s30 => if x27 = 0 then some (x28, s30) else some (x29, s30)) (x := w) hm zN 0 (-1) (-1) s (hc.kOk hx) (by omega) (by unfold zN; omega)
  refine ⟨if w = 0 then (worF (evP P) m T (T 9 0) 0 (-1) (-1)).1 else (worF (evP P) m T (T 9 0) 0 (-1) (-1)).2, S3, by rw [e1]; exact d3.trans ite_out, fun S hmm => ?_⟩
  obtain ⟨S5, d5, f5⟩ := m_worst (c := fun x27 x28 x29 s30 => if x27 = 0 then some (x28, s30) else some (x29, s30)) (x := w) hm zN 0 (-1) (-1) S (hmm.mOk hx) (by omega) (by unfold zN; omega)
  exact ⟨S5, by rw [e2, if_pos c1, if_pos c2]; exact d5.trans ite_out, f5⟩
-- ask
def askV (E : zEv) (v h : Nat) (T : zT) (o : Nat) : Option Nat := if o = h then none else if T 9 1 = 10 then none else if T 2 o = 0 ∧ v / 100 ≤ T 0 o then some (heatT (nightsT E (v % 100 + 1) 0 (lendT o h (v / 100) (T 9 2 + v % 100) T)).2) else none
def askF (E : zEv) (v h : Nat) (T : zT) : Nat → Nat → Int32 → Int32 → Int32 × Int32
  | 0, _, b, m => (b, m)
  | r + 1, o, b, m => match askV E v h T o with
    | none => askF E v h T r (o + 1) b m
    | some x => if nI x ≤ m then askF E v h T r (o + 1) b m else askF E v h T r (o + 1) (nI o) (nI x)
theorem k_ifLent {E : zEv} {K v h o : Nat} {s : zMem} {T : zT} (ok : kOk E K 999 9 s T) (hv : v ≤ 999999) (h39 : v % 100 ≤ 39) (hh : h < T 9 0) (ho : o < T 9 0) : ∃ S, f_X6_heatIfLent (nI o) (nI h) (nI v) s = some (match askV E v h T o with | none => -1 | some x => nI x, S) := by
  have h6 := ok.2.2.1.1
  have h10 := ok.2.2.1.2.1
  have h999 := ok.2.2.1.2.2.1
  obtain ⟨S1, e1, o1⟩ := k_think ok
  have vd : nI v / 100 = nI (v / 100) := pk_div (d := 100) (by omega) (by omega) (by omega)
  have vr : zrem (nI v) 100 = nI (v % 100) := pk_rem (d := 100) (by omega) (by omega) (by omega)
  unfold f_X6_heatIfLent askV
  rw [e1, bd_s, nm_eq, vd, vr]
  have eo : (nI o = nI h) ↔ o = h := nI_eq (by omega) (by omega)
  by_cases c0 : o = h
  · rw [if_pos (eo.mpr c0), if_pos c0]
    exact ⟨S1, rfl⟩
  · rw [if_neg (fun r => c0 (eo.mp r)), if_neg c0]
    obtain ⟨l1, l2, l3⟩ := k_lends (c := v / 100) (n := v % 100) o1 ho hh (by omega) (by omega)
    by_cases c10 : T 9 1 = 10
    · rw [l1 c10, bd_s, if_neg (by decide), if_pos c10]
      exact ⟨S1, rfl⟩
    · by_cases cm : T 2 o = 0 ∧ v / 100 ≤ T 0 o
      · obtain ⟨S2, e2, o2⟩ := l3 (by omega) cm
        obtain ⟨S3, e3, o3⟩ := k_nights (m := v % 100 + 1) o2 (by omega) (by omega)
        rw [e2, bd_s, if_pos (show (0 : Int32) ≤ nI (T 9 1) from nI_pos' (by omega)), nI_1, e3, bd_s, k_heat o3.2.1 o3.2.2.1, bd_s, if_neg c10, if_pos cm]
        exact ⟨S3, rfl⟩
      · rw [l2 (by omega) cm, bd_s, if_neg (by decide), if_neg c10, if_neg cm]
        exact ⟨S1, rfl⟩
theorem m1_le (v : Nat) (hv : v < 2 ^ 31) : (-1 : Int32) ≤ nI v := by
  rw [Int32.le_iff_toInt_le, nI_toInt hv]
  have : (-1 : Int32).toInt = -1 := rfl
  omega
theorem heatT_lt {M : Nat} {T : zT} (hb : tBd M T) : heatT T < 2 ^ 31 := by
  have h : ∀ n, n ≤ T 9 0 → tS (T 0) n ≤ 9999 * n := by
    intro n
    induction n with
    | zero => intro _; exact Nat.le_refl _
    | succ n ih =>
      intro hn
      have := ih (by omega)
      have := (hb.2.2.2.2.2.1 n (by omega)).1
      show tS (T 0) n + T 0 n ≤ _
      omega
  have := h (T 9 0) (Nat.le_refl _)
  have := hb.1
  show tS (T 0) (T 9 0) < 2 ^ 31
  omega
theorem askV_lt {E : zEv} {M v h o x : Nat} {T : zT} (hb : tBd M T) (hM : M ≤ 999) (hv : v ≤ 999999) (hh : h < T 9 0) (ho : o < T 9 0) (he : askV E v h T o = some x) : x < 2 ^ 31 := by
  have h10 := hb.2.1
  have h999 := hb.2.2.1
  unfold askV at he
  split at he
  · cases he
  · split at he
    · cases he
    · split at he
      · injection he with he
        subst he
        exact heatT_lt (nightsT_bd (E := E) _ 0 M _ (lendT_bd hb ho hh (by omega) (by omega) (by omega)) (by omega) (by omega)).2
      · cases he
theorem k_ask {E : zEv} {K v h : Nat} {T : zT} {c : Int32 → Int32 → Int32 → zMem → Option (Int32 × zMem)} {x : Int32} (hv : v ≤ 999999) (h39 : v % 100 ≤ 39) (hh : h < T 9 0) : ∀ (n i : Nat) (b m : Int32) (s : zMem), kOk E K 999 9 s T → i ≤ T 9 0 → T 9 0 - i < n → -1 ≤ m → ∃ S, f_X6_ask_44 c n (nI h) (nI v) x b m (nI i) s = c x (askF E v h T (T 9 0 - i) i b m).1 (askF E v h T (T 9 0 - i) i b m).2 S := by
  intro n
  induction n with
  | zero => intro i b m s _ _ hn; omega
  | succ n ih =>
    intro i b m s o hi hn hm1
    have h6 := o.2.2.1.1
    rw [f_X6_ask_44, show s 9 9 = nI (T 9 0) from o.2.1.c0.1]
    by_cases q : T 9 0 ≤ i
    · rw [if_pos (nI_le q (by omega)), show T 9 0 - i = 0 by omega]
      exact ⟨s, rfl⟩
    · obtain ⟨S3, e3⟩ := k_ifLent o hv h39 hh (o := i) (by omega)
      have now : kOk E K 999 9 S3 T := k_now o (fun a k h1 h2 => fr_X6_heatIfLent a k (by omega) rfl _ S3 e3)
      rw [if_neg (nI_ge (by omega) (by omega)), e3, bd_s, show T 9 0 - i = (T 9 0 - (i + 1)) + 1 by omega]
      unfold askF
      cases ha : askV E v h T i with
      | none =>
        dsimp only
        rw [if_pos hm1, nm_eq, nI_1]
        exact ih (i + 1) _ _ S3 now (by omega) (by omega) hm1
      | some y =>
        dsimp only
        have hy := askV_lt o.2.2.1 (by omega) hv hh (by omega) ha
        by_cases c2 : nI y ≤ m
        · rw [if_pos c2, if_pos c2, nm_eq, nI_1]
          exact ih (i + 1) _ _ S3 now (by omega) (by omega) hm1
        · rw [if_neg c2, if_neg c2, nm_eq, nI_1]
          exact ih (i + 1) _ _ S3 now (by omega) (by omega) (m1_le y hy)
theorem m_ask {E : zEv} {K v h : Nat} {T : zT} {c : Int32 → Int32 → Int32 → zMem → Option (Int32 × zMem)} {x : Int32} (hv : v ≤ 999999) (h39 : v % 100 ≤ 39) (hh : h < T 9 0) : ∀ (n i : Nat) (b m : Int32) (s : zMem), mOk E K 999 s T → i ≤ T 9 0 → T 9 0 - i < n → ∃ S, f_X7_ask_48 c n (nI h) (nI v) x b m (nI i) s = c x (askF E v h T (T 9 0 - i) i b m).1 (askF E v h T (T 9 0 - i) i b m).2 S ∧ ∀ a k, cM a k → S a k = s a k := by
  intro n
  induction n with
  | zero => intro i b m s _ _ hn; omega
  | succ n ih =>
    intro i b m s o hi hn
    have h6 := o.2.1.1
    have h10 := o.2.1.2.1
    have h999 := o.2.1.2.2.1
    have vd : nI v / 100 = nI (v / 100) := pk_div (d := 100) (by omega) (by omega) (by omega)
    have vr : zrem (nI v) 100 = nI (v % 100) := pk_rem (d := 100) (by omega) (by omega) (by omega)
    rw [f_X7_ask_48, o.1.c0.1]
    by_cases q : T 9 0 ≤ i
    · rw [if_pos (nI_le q (by omega)), show T 9 0 - i = 0 by omega]
      exact ⟨s, rfl, fun _ _ _ => rfl⟩
    · have eo : (nI i = nI h) ↔ i = h := nI_eq (by omega) (by omega)
      rw [if_neg (nI_ge (by omega) (by omega)), show T 9 0 - i = (T 9 0 - (i + 1)) + 1 by omega, o.1.c0.2.1, vd]
      unfold askF
      by_cases c0 : i = h
      · have ha : askV E v h T i = none := if_pos c0
        rw [if_pos (eo.mpr c0), ha, nm_eq, nI_1]
        exact ih (i + 1) _ _ s o (by omega) (by omega)
      rw [if_neg (fun r => c0 (eo.mp r))]
      by_cases c10 : T 9 1 = 10
      · have ha : askV E v h T i = none := by unfold askV; rw [if_neg c0, if_pos c10]
        rw [if_pos (show (10 : Int32) ≤ nI (T 9 1) from nI_le (a := 10) (by omega) (by omega)), ha, nm_eq, nI_1]
        exact ih (i + 1) _ _ s o (by omega) (by omega)
      rw [if_neg (show ¬ (10 : Int32) ≤ nI (T 9 1) from nI_ge (b := 10) (by omega) (by omega)), m_may o (a := i) (by omega) (by omega), bd_s, zif01]
      by_cases cm : T 2 i = 0 ∧ v / 100 ≤ T 0 i
      · have ha : askV E v h T i = some (heatT (nightsT E (v % 100 + 1) 0 (lendT i h (v / 100) (T 9 2 + v % 100) T)).2) := by unfold askV; rw [if_neg c0, if_neg c10, if_pos cm]
        obtain ⟨S1, e1, o1, k1, _⟩ := m_open o
        obtain ⟨S2, e2, o2, _⟩ := m_lends (a := i) (b := h) o1 (by omega) hh hv (by omega) (by omega) cm.2
        have k2 : WK s S2 := k1.fr (fun a k hk => fr_X7_lends a k (by omega) rfl _ S2 e2)
        obtain ⟨S3, e3, o3⟩ := m_goes (m := v % 100 + 1) o2 (by omega) (by omega)
        obtain ⟨S4, e4, f4⟩ := m_close (k2.fr (fr_goes e3))
        rw [if_pos cm, e1, bd_s, e2, bd_s, vr, nI_1, e3, bd_s, m_heat o3.1 o3.2.1, bd_s, e4, bd_s, ha]
        dsimp only
        by_cases c2 : nI (heatT (nightsT E (v % 100 + 1) 0 (lendT i h (v / 100) (T 9 2 + v % 100) T)).2) ≤ m
        · rw [if_pos c2, if_pos c2, if_pos c2, nm_eq, nI_1]
          obtain ⟨S, e, g⟩ := ih (i + 1) b m S4 (m_now o f4) (by omega) (by omega)
          exact ⟨S, e, fun a k hk => by rw [g a k hk, f4 a k hk]⟩
        · rw [if_neg c2, if_neg c2, if_neg c2, nm_eq, nI_1]
          obtain ⟨S, e, g⟩ := ih (i + 1) _ _ S4 (m_now o f4) (by omega) (by omega)
          exact ⟨S, e, fun a k hk => by rw [g a k hk, f4 a k hk]⟩
      · have ha : askV E v h T i = none := by unfold askV; rw [if_neg c0, if_neg c10, if_neg cm]
        rw [if_neg cm, ha, nm_eq, nI_1]
        exact ih (i + 1) _ _ s o (by omega) (by omega)
theorem step_ask (p q w : Int32) : stepOk (f_X6_ask p q w) (f_X7_ask p q w) := by
  refine step_q (fun a k v s hk e => fr_X6_ask a k (by unfold cC at hk; omega) e) (fun a k v s hk e => fr_X7_ask a k (by omega) e) ?_
  intro T U P K F z B Z s hx hc
  have h6 := hx.1.1
  have e1 : f_X6_ask p q w s = (if 0 ≤ p ∧ p < nI (T 9 0) then (bd (f_X6_isCoalNights q 39 s) fun r3 s4 => if r3 = 0 then some ((-7), s4) else bd (f_X6_isFromTo w 0 1 s4) fun r5 s6 => if r5 = 0 then some ((-7), s6) else f_X6_ask_44 (fun x18 x19 x20 s21 => if x18 = 0 then some (x19, s21) else some (x20, s21)) zN p q w (-1) (-1) 0 s6) else some (-5, s)) := by
    unfold f_X6_ask
    rw [k_hutP p hc.1.c0.1, bd_s, zif01]
  have e2 : ∀ S, zRM T U P K F z B Z S → f_X7_ask p q w S = (if 0 ≤ p ∧ p < nI (T 9 0) then (bd (f_X7_areCoalNights q S) fun r3 s4 => if r3 = 0 then some ((-7), s4) else if 39 < (zrem q 100) then some ((-7), s4) else bd (f_X7_in w 0 1 s4) fun r5 s6 => if r5 = 0 then some ((-7), s6) else f_X7_ask_48 (fun x33 x34 x35 s36 => if x33 = 0 then some (x34, s36) else some (x35, s36)) zN p q w (-1) (-1) 0 s6) else some (-5, S)) := by
    intro S hm
    unfold f_X7_ask
    rw [m_hutP p hm.1.c0.1 (by omega), bd_s, zif01]
  rcases ltP p (T 9 0) (by omega) with hn | ⟨h, hh, rfl⟩
  · exact ⟨-5, s, by rw [e1, if_neg hn], fun S hm => ⟨S, by rw [e2 S hm, if_neg hn], fun _ _ _ => rfl⟩⟩
  have th := ltP_t hh (n := T 9 0) (by omega)
  rw [if_pos th] at e1
  have k39 : (cnP q 39 → f_X6_isCoalNights q 39 s = some (1, s)) ∧ (¬ cnP q 39 → f_X6_isCoalNights q 39 s = some (0, s)) := k_cn (m := 39) (by omega) s
  by_cases cq : cnP q 39
  · obtain ⟨v, rfl, v1, v2, v3, v4⟩ := id cq
    have c99 : cnP (nI v) 99 := ⟨v, rfl, v1, v2, v3, by omega⟩
    have vr : zrem (nI v) 100 = nI (v % 100) := pk_rem (d := 100) (by omega) (by omega) (by omega)
    rw [k39.1 cq, bd_s, if_neg (by decide), k_isFromTo, bd_s, zif01] at e1
    have e3 : ∀ S, zRM T U P K F z B Z S → f_X7_ask (nI h) (nI v) w S = (if 0 ≤ w ∧ w ≤ 1 then f_X7_ask_48 (fun x33 x34 x35 s36 => if x33 = 0 then some (x34, s36) else some (x35, s36)) zN (nI h) (nI v) w (-1) (-1) 0 S else some (-7, S)) := by
      intro S hm
      rw [e2 S hm, if_pos th, (m_cn S).1 c99, bd_s, if_neg (by decide), vr, if_neg (show ¬ (39 : Int32) < nI (v % 100) from nI_nlt (a := 39) (by omega) (by omega)), k_in, bd_s, zif01]
    by_cases cw : 0 ≤ w ∧ w ≤ 1
    · rw [if_pos cw] at e1
      obtain ⟨S3, d3⟩ := k_ask (c := fun x27 x28 x29 s30 => if x27 = 0 then some (x28, s30) else some (x29, s30)) (x := w) v2 v4 hh zN 0 (-1) (-1) s (hc.kOk hx) (by omega) (by unfold zN; omega) (by decide)
      refine ⟨if w = 0 then (askF (evP P) v h T (T 9 0) 0 (-1) (-1)).1 else (askF (evP P) v h T (T 9 0) 0 (-1) (-1)).2, S3, by rw [e1]; exact d3.trans ite_out, fun S hmm => ?_⟩
      obtain ⟨S5, d5, f5⟩ := m_ask (c := fun x27 x28 x29 s30 => if x27 = 0 then some (x28, s30) else some (x29, s30)) (x := w) v2 v4 hh zN 0 (-1) (-1) S (hmm.mOk hx) (by omega) (by unfold zN; omega)
      exact ⟨S5, by rw [e3 S hmm, if_pos cw]; exact d5.trans ite_out, f5⟩
    · exact ⟨-7, s, by rw [e1, if_neg cw], fun S hm => ⟨S, by rw [e3 S hm, if_neg cw], fun _ _ _ => rfl⟩⟩
  · refine ⟨-7, s, by rw [e1, k39.2 cq, bd_s, if_pos rfl], fun S hm => ⟨S, ?_, fun _ _ _ => rfl⟩⟩
    rw [e2 S hm, if_pos th]
    by_cases c99 : cnP q 99
    · obtain ⟨v, rfl, v1, v2, v3, v4⟩ := id c99
      have vr : zrem (nI v) 100 = nI (v % 100) := pk_rem (d := 100) (by omega) (by omega) (by omega)
      have : 39 < v % 100 := by
        by_cases c : 39 < v % 100
        · exact c
        · exact absurd ⟨v, rfl, v1, v2, v3, by omega⟩ cq
      rw [(m_cn S).1 c99, bd_s, if_neg (by decide), vr, if_pos (show (39 : Int32) < nI (v % 100) from nI_lt (a := 39) this (by omega))]
    · rw [(m_cn S).2 c99, bd_s, if_pos rfl]

-- questions over nights: run
def runV (E : zEv) (n w : Nat) (T : zT) : Nat := if w = 0 then heatT (nightsT E n 0 T).2 else if w = 1 then (nightsT E n 0 T).1 else if w = 2 then (nightsT E n 0 T).2 9 1 else (nightsT E n 0 T).2 0 (w - 10)
theorem nightsT_9 {E : zEv} : ∀ (m f : Nat) (T : zT), (nightsT E m f T).2 9 0 = T 9 0 := by
  intro m
  induction m with
  | zero => intro f T; rfl
  | succ m ih =>
    intro f T
    show (nightsT E m _ (nightT E T).2).2 9 0 = _
    rw [ih, nightT_9.1]
def runOk (p w : Int32) (H : Nat) : Prop := (0 ≤ p ∧ p ≤ 40) ∧ ((0 ≤ w ∧ w ≤ 2) ∨ ∃ h, h < H ∧ w = nI (10 + h))
theorem k_runC {H : Nat} {s : zMem} (p w : Int32) (e : s 9 9 = nI H) (hH : H ≤ 6) : (runOk p w H → f_X6_run p w s = f_X6_run_52 p w s) ∧ (¬ runOk p w H → f_X6_run p w s = some (-2, s)) := by
  have e25 : ∀ t : Int32, f_X6_run_25 p w t s = if 0 ≤ p ∧ p ≤ 40 then (if 0 ≤ w ∧ w ≤ 2 then f_X6_run_52 p w s else if t = 0 then some (-2, s) else f_X6_run_52 p w s) else some (-2, s) := by
    intro t
    unfold f_X6_run_25
    rw [k_isFromTo, bd_s, zif01, k_isFromTo, bd_s, zif01]
  unfold f_X6_run runOk
  by_cases hw : w < 10
  · rw [if_pos hw]
    unfold f_X6_run_24
    rw [e25]
    have no : ¬ ∃ h, h < H ∧ w = nI (10 + h) := fun ⟨h, hh, r⟩ => by
      rw [r] at hw
      exact absurd hw (nI_nlt (b := 10) (by omega) (by omega))
    refine ⟨fun q => ?_, fun q => ?_⟩
    · rw [if_pos q.1, if_pos (q.2.resolve_right no)]
    · by_cases c1 : 0 ≤ p ∧ p ≤ 40
      · rw [if_pos c1, if_neg (fun r => q ⟨c1, Or.inl r⟩), if_pos rfl]
      · rw [if_neg c1]
  · rw [if_neg hw]
    have hw0 : ¬ w < 0 := fun r => hw (by
      rw [Int32.lt_iff_toInt_lt] at r ⊢
      have u0 : (0 : Int32).toInt = 0 := rfl
      have u1 : (10 : Int32).toInt = 10 := rfl
      omega)
    obtain ⟨v, hv, rfl⟩ := nI_of hw0
    have hv10 : 10 ≤ v := by
      by_cases c : 10 ≤ v
      · exact c
      · exact absurd (nI_lt (b := 10) (by omega) (by omega)) hw
    have no : ¬ (0 ≤ nI v ∧ nI v ≤ 2) := fun r => absurd r.2 (nI_ge (a := 2) (by omega) hv)
    have es : nI v - 10 = nI (v - 10) := nI_sub (b := 10) hv10
    rw [es, k_hutP _ e, bd_s, zif01]
    unfold f_X6_run_24
    rw [e25, e25]
    by_cases ch : v - 10 < H
    · rw [if_pos (ltP_t ch (by omega))]
      refine ⟨fun q => by rw [if_pos q.1, if_neg no, if_neg (by decide)], fun q => ?_⟩
      rw [if_neg (fun r => q ⟨r, Or.inr ⟨v - 10, ch, by rw [show 10 + (v - 10) = v by omega]⟩⟩)]
    · rw [if_neg (fun r => ch ((nI_ltI (by omega) (by omega)).mp r.2))]
      refine ⟨fun q => ?_, fun q => ?_⟩
      · rcases q.2 with r | ⟨h, hh, r⟩
        · exact absurd r no
        · have := (nI_eq hv (by omega)).mp r
          omega
      · by_cases c1 : 0 ≤ p ∧ p ≤ 40
        · rw [if_pos c1, if_neg no, if_pos rfl]
        · rw [if_neg c1]
theorem m_runC {H : Nat} {s : zMem} (p w : Int32) (e : s 47 0 = nI H) (hH : H ≤ 6) : (runOk p w H → f_X7_run p w s = f_X7_run_38 p w s) ∧ (¬ runOk p w H → f_X7_run p w s = some (-2, s)) := by
  have e9 : (9 : Int32) + nI H = nI (9 + H) := nI_add 9 H
  unfold f_X7_run runOk
  rw [k_in, bd_s, zif01, k_in, bd_s, zif01, e, e9, k_in, bd_s, zif01]
  have hc : (10 ≤ w ∧ w ≤ nI (9 + H)) ↔ ∃ h, h < H ∧ w = nI (10 + h) := by
    constructor
    · intro r
      have hw0 : ¬ w < 0 := fun q => by
        have := r.1
        rw [Int32.le_iff_toInt_le] at this
        rw [Int32.lt_iff_toInt_lt] at q
        have u0 : (0 : Int32).toInt = 0 := rfl
        have u1 : (10 : Int32).toInt = 10 := rfl
        omega
      obtain ⟨v, hv, rfl⟩ := nI_of hw0
      have a := (nI_leI (a := 10) (by omega) hv).mp r.1
      have b := (nI_leI hv (by omega)).mp r.2
      exact ⟨v - 10, by omega, by rw [show 10 + (v - 10) = v by omega]⟩
    · rintro ⟨h, hh, rfl⟩
      exact ⟨nI_le (a := 10) (by omega) (by omega), nI_le (by omega) (by omega)⟩
  refine ⟨fun q => ?_, fun q => ?_⟩
  · rw [if_pos q.1]
    by_cases c2 : 0 ≤ w ∧ w ≤ 2
    · rw [if_pos c2]
    · rw [if_neg c2, if_pos (hc.mpr (q.2.resolve_left c2))]
  · by_cases c1 : 0 ≤ p ∧ p ≤ 40
    · rw [if_pos c1, if_neg (fun r => q ⟨c1, Or.inl r⟩), if_neg (fun r => q ⟨c1, Or.inr (hc.mp r)⟩)]
    · rw [if_neg c1]
theorem k_run52 {E : zEv} {K n w : Nat} {s : zMem} {T : zT} (o : kOk E K 999 9 s T) (hn : n ≤ 40) (hw : w ≤ 2 ∨ (10 ≤ w ∧ w - 10 < T 9 0)) : ∃ S, f_X6_run_52 (nI n) (nI w) s = some (nI (runV E n w T), S) := by
  have h6 := o.2.2.1.1
  obtain ⟨S1, e1, o1⟩ := k_think o
  obtain ⟨S2, e2, o2⟩ := k_nights (m := n) o1 (by omega) (by omega)
  unfold f_X6_run_52 runV
  rw [e1, bd_s, e2, bd_s]
  have hne : ∀ j : Nat, j < 100 → (nI w = nI j ↔ w = j) := fun j hj => nI_eq (by omega) (by omega)
  by_cases w0 : w = 0
  · rw [if_pos (show nI w = 0 from (hne 0 (by omega)).mpr w0), if_pos w0, k_heat o2.2.1 o2.2.2.1, bd_s]
    exact ⟨S2, rfl⟩
  rw [if_neg (show ¬ nI w = 0 from fun r => w0 ((hne 0 (by omega)).mp r)), if_neg w0]
  by_cases w1 : w = 1
  · rw [if_pos (show nI w = 1 from (hne 1 (by omega)).mpr w1), if_pos w1]
    exact ⟨S2, rfl⟩
  rw [if_neg (show ¬ nI w = 1 from fun r => w1 ((hne 1 (by omega)).mp r)), if_neg w1]
  by_cases w2 : w = 2
  · rw [if_pos (show nI w = 2 from (hne 2 (by omega)).mpr w2), if_pos w2, o2.2.1.c0.2.1]
    exact ⟨S2, rfl⟩
  rw [if_neg (show ¬ nI w = 2 from fun r => w2 ((hne 2 (by omega)).mp r)), if_neg w2, show nI w - 10 = nI (w - 10) from nI_sub (b := 10) (by omega), gd_t (zib_nI (by omega) (by decide)), zix_nI (by omega)]
  have : S2 21 (w - 10) = nI ((nightsT E n 0 T).2 0 (w - 10)) := (o2.2.1.ch (i := w - 10) (by rw [nightsT_9]; omega)).1
  rw [this]
  exact ⟨S2, rfl⟩
theorem fr_goes {p : Int32} {s : zMem} {r : Int32} {S : zMem} (h : f_X7_goes p s = some (r, S)) : ∀ a k, ¬ ((a = 47 ∧ (k = 8 ∨ k = 9 ∨ k = 36)) ∨ (50 ≤ a ∧ a ≤ 54) ∨ a = 66 ∨ a = 67) → S a k = s a k := fun a k hk => fr_X7_goes a k (by omega) rfl _ S h
theorem fr_night {s : zMem} {r : Int32} {S : zMem} (h : f_X7_nightOf s = some (r, S)) : ∀ a k, ¬ ((a = 47 ∧ (k = 8 ∨ k = 9 ∨ k = 36)) ∨ (50 ≤ a ∧ a ≤ 54) ∨ a = 66 ∨ a = 67) → S a k = s a k := fun a k hk => fr_X7_nightOf a k (by omega) rfl _ S h
theorem m_run38 {E : zEv} {K n w : Nat} {s : zMem} {T : zT} (o : mOk E K 999 s T) (hn : n ≤ 40) (hw : w ≤ 2 ∨ (10 ≤ w ∧ w - 10 < T 9 0)) : ∃ S, f_X7_run_38 (nI n) (nI w) s = some (nI (runV E n w T), S) ∧ ∀ a k, cM a k → S a k = s a k := by
  have h6 := o.2.1.1
  obtain ⟨S1, e1, o1, k1, _⟩ := m_open o
  obtain ⟨S2, e2, o2⟩ := m_goes (m := n) o1 (by omega) (by omega)
  obtain ⟨S3, e3, f3⟩ := m_close (k1.fr (fr_goes e2))
  unfold f_X7_run_38 runV
  rw [e1, bd_s, e2, bd_s]
  have hne : ∀ j : Nat, j < 100 → (nI w = nI j ↔ w = j) := fun j hj => nI_eq (by omega) (by omega)
  by_cases w0 : w = 0
  · rw [if_pos (show nI w = 0 from (hne 0 (by omega)).mpr w0), if_pos w0, m_heat o2.1 o2.2.1, bd_s, e3, bd_s]
    exact ⟨S3, rfl, f3⟩
  rw [if_neg (show ¬ nI w = 0 from fun r => w0 ((hne 0 (by omega)).mp r)), if_neg w0]
  by_cases w1 : w = 1
  · rw [if_pos (show nI w = 1 from (hne 1 (by omega)).mpr w1), if_pos w1, e3, bd_s]
    exact ⟨S3, rfl, f3⟩
  rw [if_neg (show ¬ nI w = 1 from fun r => w1 ((hne 1 (by omega)).mp r)), if_neg w1]
  by_cases w2 : w = 2
  · rw [if_pos (show nI w = 2 from (hne 2 (by omega)).mpr w2), if_pos w2, o2.1.c0.2.1, nm_eq, e3, bd_s]
    exact ⟨S3, rfl, f3⟩
  have e5 : (if (0 : Int32) ≤ nI (w - 10) then (if nI (w - 10) ≤ 5 then nI (w - 10) else 5) else 0) = nI (w - 10) := by
    rw [if_pos (show (0 : Int32) ≤ nI (w - 10) from nI_pos' (by omega)), if_pos (show nI (w - 10) ≤ 5 from nI_le (b := 5) (by omega) (by omega))]
  rw [if_neg (show ¬ nI w = 2 from fun r => w2 ((hne 2 (by omega)).mp r)), if_neg w2, show nI w - 10 = nI (w - 10) from nI_sub (b := 10) (by omega), k_within, bd_s, e5, n3m, gd_t (zib_nI (by omega) (by decide)), zix_nI (by omega), (o2.1.ch (i := w - 10) (by rw [nightsT_9]; omega)).1, nm_eq, e3, bd_s]
  exact ⟨S3, rfl, f3⟩
theorem step_run (p w : Int32) : stepOk (f_X6_run p w) (f_X7_run p w) := by
  refine step_q (fun a k v s hk e => fr_X6_run a k (by unfold cC at hk; omega) e) (fun a k v s hk e => fr_X7_run a k (by omega) e) ?_
  intro T U P K F z B Z s hx hc
  have h6 := hx.1.1
  obtain ⟨k1, k2⟩ := k_runC p w hc.1.c0.1 h6
  by_cases c : runOk p w (T 9 0)
  · obtain ⟨⟨cp1, cp2⟩, cw⟩ := id c
    obtain ⟨n, hn, rfl⟩ := (pk_in2 p 40 (by omega)).resolve_left (fun r => r ⟨cp1, cp2⟩)
    have hw : ∃ v, w = nI v ∧ (v ≤ 2 ∨ (10 ≤ v ∧ v - 10 < T 9 0)) := by
      rcases cw with r | ⟨h, hh, r⟩
      · obtain ⟨v, hv, rfl⟩ := (pk_in2 w 2 (by omega)).resolve_left (fun q => q r)
        exact ⟨v, rfl, Or.inl hv⟩
      · exact ⟨10 + h, r, Or.inr ⟨by omega, by omega⟩⟩
    obtain ⟨v, rfl, hv⟩ := hw
    obtain ⟨S1, e1⟩ := k_run52 (hc.kOk hx) hn hv
    refine ⟨_, S1, by rw [k1 c, e1], fun S hm => ?_⟩
    obtain ⟨S2, e2, f2⟩ := m_run38 (hm.mOk hx) hn hv
    exact ⟨S2, by rw [(m_runC _ _ hm.1.c0.1 h6).1 c, e2], f2⟩
  · exact ⟨-2, s, k2 c, fun S hm => ⟨S, (m_runC _ _ hm.1.c0.1 h6).2 c, fun _ _ _ => rfl⟩⟩
-- lasts
def lastF (E : zEv) (h : Nat) : Nat → Nat → zT → Int32
  | 0, _, _ => -1
  | m + 1, i, T => if Nat.testBit (nightT E T).1 h = true then nI i else lastF E h m (i + 1) (nightT E T).2
def lastH (E : zEv) (h : Nat) : Nat → Nat → zT → Int32
  | 0, _, _ => -1
  | m + 1, i, T => if (nightT E T).2 0 h = 0 then nI i else lastH E h m (i + 1) (nightT E T).2
theorem k_lastF {E : zEv} {K h : Nat} : ∀ (n i M : Nat) (s : zMem) (T : zT), kOk E K M 20 s T → h < T 9 0 → M ≤ 1000 + i → i ≤ 41 → 41 - i < n → ∃ S, f_X6_nightsToFailing_7 n (nI h) (nI i) s = some (lastF E h (41 - i) i T, S) := by
  intro n
  induction n with
  | zero => intro i M s T _ _ _ _ hn; omega
  | succ n ih =>
    intro i M s T o hh hM hi hn
    have h6 := o.2.2.1.1
    rw [f_X6_nightsToFailing_7]
    by_cases c : 40 < i
    · rw [if_pos (show (40 : Int32) < nI i from nI_lt (a := 40) c (by omega)), show 41 - i = 0 by omega]
      exact ⟨s, rfl⟩
    · obtain ⟨S1, e1, o1⟩ := k_night o (by omega)
      have hf := (nightT_bd (E := E) o.2.2.1 (by omega)).1
      rw [if_neg (show ¬ (40 : Int32) < nI i from nI_nlt (a := 40) (by omega) (by omega)), e1, bd_s, k_has hf (by omega), bd_s, zif01, show 41 - i = (41 - (i + 1)) + 1 by omega]
      unfold lastF
      by_cases b : Nat.testBit (nightT E T).1 h = true
      · rw [if_pos b, if_pos b]
        exact ⟨S1, rfl⟩
      · rw [if_neg b, if_neg b, nm_eq, nI_1]
        exact ih (i + 1) _ S1 _ o1 (by rw [nightT_9.1]; exact hh) (by omega) (by omega) (by omega)
theorem k_lastH {E : zEv} {K h : Nat} : ∀ (n i M : Nat) (s : zMem) (T : zT), kOk E K M 20 s T → h < T 9 0 → M ≤ 1000 + i → i ≤ 40 → 41 - i < n → ∃ S, f_X6_nightsToNoHeat_7 n (nI h) (nI i) s = some (if T 0 h = 0 then nI i else lastH E h (40 - i) (i + 1) T, S) := by
  intro n
  induction n with
  | zero => intro i M s T _ _ _ _ hn; omega
  | succ n ih =>
    intro i M s T o hh hM hi hn
    have h6 := o.2.2.1.1
    have hb := (o.2.2.1.2.2.2.2.2.1 h hh).1
    rw [f_X6_nightsToNoHeat_7, if_neg (show ¬ (40 : Int32) < nI i from nI_nlt (a := 40) (by omega) (by omega)), gd_t (zib_nI (by omega) (by decide)), zix_nI (by omega), show s 21 h = nI (T 0 h) from (o.2.1.ch hh).1]
    by_cases c : T 0 h = 0
    · rw [if_pos (show nI (T 0 h) = 0 by rw [c]; rfl), if_pos c]
      exact ⟨s, rfl⟩
    · obtain ⟨S1, e1, o1⟩ := k_night o (by omega)
      rw [if_neg (show ¬ nI (T 0 h) = 0 from nI_ne0 (by omega) (by omega)), if_neg c, e1, bd_s, nm_eq, nI_1]
      by_cases c40 : i = 40
      · cases n with
        | zero => omega
        | succ n =>
          rw [f_X6_nightsToNoHeat_7, if_pos (show (40 : Int32) < nI (i + 1) from nI_lt (a := 40) (by omega) (by omega)), show 40 - i = 0 by omega]
          exact ⟨S1, rfl⟩
      · rw [show 40 - i = (40 - (i + 1)) + 1 by omega]
        unfold lastH
        exact ih (i + 1) _ S1 _ o1 (by rw [nightT_9.1]; exact hh) (by omega) (by omega) (by omega)
theorem m_last {E : zEv} {K h w : Nat} {s0 : zMem} {c : Int32 → zMem → Option (Int32 × zMem)} (hw : w ≤ 1) : ∀ (n i M : Nat) (s : zMem) (T : zT), mOk E K M s T → h < T 9 0 → M ≤ 1000 + i → 1 ≤ i → i ≤ 41 → 42 - i < n → WK s0 s → ∃ S, f_X7_lasts_50 c n (nI h) (nI w) (-1) (nI i) s = c (if w = 0 then lastF E h (41 - i) i T else lastH E h (41 - i) i T) S ∧ WK s0 S := by
  intro n
  induction n with
  | zero => intro i M s T _ _ _ _ _ hn; omega
  | succ n ih =>
    intro i M s T o hh hM hi1 hi hn hk
    have h6 := o.2.1.1
    rw [f_X7_lasts_50]
    by_cases c40 : 40 < i
    · rw [if_pos (show (40 : Int32) < nI i from nI_lt (a := 40) c40 (by omega)), show 41 - i = 0 by omega]
      refine ⟨s, ?_, hk⟩
      split <;> rfl
    · obtain ⟨S1, e1, o1⟩ := m_night o (by omega)
      have hf := (nightT_bd (E := E) o.2.1 (by omega)).1
      have hk1 := hk.fr (fr_night e1)
      have n9 : h < (nightT E T).2 9 0 := by rw [nightT_9.1]; exact hh
      have hb := (o1.2.1.2.2.2.2.2.1 h n9).1
      have stop : ∀ j, 1 ≤ j → j ≤ 41 → ∃ m, n = m + 1 ∧ ∀ x : Int32, f_X7_lasts_50 c (m + 1) (nI h) (nI w) (nI j) x S1 = c (nI j) S1 := by
        intro j hj1 hj
        cases n with
        | zero => omega
        | succ m =>
          refine ⟨m, rfl, fun x => ?_⟩
          rw [f_X7_lasts_50, if_neg (nIm1 (by omega))]
          split <;> rfl
      rw [if_neg (show ¬ (40 : Int32) < nI i from nI_nlt (a := 40) (by omega) (by omega)), if_pos rfl, e1, bd_s, show 41 - i = (41 - (i + 1)) + 1 by omega]
      unfold lastF lastH
      by_cases w0 : w = 0
      · subst w0
        rw [if_pos (show nI 0 = 0 from rfl), if_pos rfl]
        by_cases b : Nat.testBit (nightT E T).1 h = true
        · rw [if_pos ((bit_1 hf (by omega)).mpr b), if_pos b, nm_eq]
          obtain ⟨m, rfl, hm⟩ := stop i hi1 hi
          exact ⟨S1, hm _, hk1⟩
        · rw [if_neg (fun r => b ((bit_1 hf (by omega)).mp r)), if_neg b, nm_eq, nI_1]
          obtain ⟨S, e, k⟩ := ih (i + 1) _ S1 _ o1 n9 (by omega) (by omega) (by omega) (by omega) hk1
          rw [if_pos rfl] at e
          exact ⟨S, e, k⟩
      · have w1 : w = 1 := by omega
        subst w1
        rw [if_neg (show ¬ nI 1 = 0 by decide), if_neg (show ¬ (1 : Nat) = 0 by omega), n3m, gd_t (zib_nI (by omega) (by decide)), zix_nI (by omega), (o1.1.ch n9).1]
        by_cases b : (nightT E T).2 0 h = 0
        · rw [if_pos (show nI ((nightT E T).2 0 h) = 0 by rw [b]; rfl), if_pos b, nm_eq]
          obtain ⟨m, rfl, hm⟩ := stop i hi1 hi
          exact ⟨S1, hm _, hk1⟩
        · rw [if_neg (show ¬ nI ((nightT E T).2 0 h) = 0 from nI_ne0 (by omega) (by omega)), if_neg b, nm_eq, nI_1]
          obtain ⟨S, e, k⟩ := ih (i + 1) _ S1 _ o1 n9 (by omega) (by omega) (by omega) (by omega) hk1
          rw [if_neg (by decide)] at e
          exact ⟨S, e, k⟩
theorem step_lasts (p w : Int32) : stepOk (f_X6_lasts p w) (f_X7_lasts p w) := by
  refine step_q (fun a k v s hk e => fr_X6_lasts a k (by unfold cC at hk; omega) e) (fun a k v s hk e => fr_X7_lasts a k (by omega) e) ?_
  intro T U P K F z B Z s hx hc
  have h6 := hx.1.1
  have ok := hc.kOk hx
  have e1 : f_X6_lasts p w s = (if 0 ≤ p ∧ p < nI (T 9 0) then if 0 ≤ w ∧ w ≤ 1 then (if w = 0 then bd (f_X6_nightsToFailing p s) fun r7 s8 => some (r7, s8) else bd (f_X6_nightsToNoHeat p s) fun r5 s6 => some (r5, s6)) else some (-7, s) else some (-5, s)) := by
    unfold f_X6_lasts
    rw [k_hutP p hc.1.c0.1, bd_s, zif01, k_isFromTo, bd_s, zif01]
  have e2 : ∀ S, zRM T U P K F z B Z S → f_X7_lasts p w S = (if 0 ≤ p ∧ p < nI (T 9 0) then if 0 ≤ w ∧ w ≤ 1 then (bd (f_X7_keeps S) fun _ s6 => if w = 1 then gd (zib (3 * p) 18) <| if (s6 50 (zix (3 * p))) = 0 then f_X7_lasts_47 p w 0 s6 else f_X7_lasts_47 p w (-1) s6 else f_X7_lasts_47 p w (-1) s6) else some (-7, S) else some (-5, S)) := by
    intro S hm
    unfold f_X7_lasts
    rw [m_hutP p hm.1.c0.1 (by omega), bd_s, zif01, k_in, bd_s, zif01]
  rcases ltP p (T 9 0) (by omega) with hn | ⟨h, hh, rfl⟩
  · exact ⟨-5, s, by rw [e1, if_neg hn], fun S hm => ⟨S, by rw [e2 S hm, if_neg hn], fun _ _ _ => rfl⟩⟩
  have th := ltP_t hh (n := T 9 0) (by omega)
  rcases in_2 w 1 (by omega) with hn | ⟨j, hj, rfl⟩
  · exact ⟨-7, s, by rw [e1, if_pos th]; exact if_neg hn, fun S hm => ⟨S, by rw [e2 S hm, if_pos th]; exact if_neg hn, fun _ _ _ => rfl⟩⟩
  have tj : (0 : Int32) ≤ nI j ∧ nI j ≤ 1 := inP_t (n := 1) hj (by omega)
  rw [if_pos th, if_pos tj] at e1
  obtain ⟨S1, t1, o1⟩ := k_think ok
  have hb := (hx.1.2.2.2.2.2.1 h hh).1
  rcases (by omega : j = 0 ∨ j = 1) with rfl | rfl
  · obtain ⟨S2, d2⟩ := k_lastF (h := h) zN 1 999 S1 T o1 hh (by omega) (by omega) (by unfold zN; omega)
    refine ⟨lastF (evP P) h 40 1 T, S2, ?_, fun S hm => ?_⟩
    · rw [e1, if_pos (show nI 0 = 0 from rfl)]
      unfold f_X6_nightsToFailing
      rw [t1, bd_s]
      have d2' : f_X6_nightsToFailing_7 zN (nI h) 1 S1 = some (lastF (evP P) h 40 1 T, S2) := d2
      rw [d2', bd_s]
    · obtain ⟨S3, d3, o3, k3, _⟩ := m_open (hm.mOk hx)
      obtain ⟨S4, d4, k4⟩ := m_last (c := fun x22 s23 => bd (f_X7_lays s23) fun _ s25 => some (x22, s25)) (w := 0) (by omega) zN 1 999 S3 T o3 hh (by omega) (by omega) (by omega) (by unfold zN; omega) k3
      obtain ⟨S5, d5, f5⟩ := m_close k4
      refine ⟨S5, ?_, f5⟩
      rw [e2 S hm, if_pos th, if_pos tj, d3, bd_s, if_neg (by decide)]
      unfold f_X7_lasts_47
      have d4' := d4.trans (show _ = some (lastF (evP P) h 40 1 T, S5) by rw [if_pos rfl, d5, bd_s])
      exact d4'
  · obtain ⟨S2, d2⟩ := k_lastH (h := h) zN 0 999 S1 T o1 hh (by omega) (by omega) (by unfold zN; omega)
    refine ⟨if T 0 h = 0 then nI 0 else lastH (evP P) h 40 1 T, S2, ?_, fun S hm => ?_⟩
    · rw [e1, if_neg (show ¬ nI 1 = 0 by decide)]
      unfold f_X6_nightsToNoHeat
      rw [t1, bd_s]
      have d2' : f_X6_nightsToNoHeat_7 zN (nI h) 0 S1 = some (if T 0 h = 0 then nI 0 else lastH (evP P) h 40 1 T, S2) := d2
      rw [d2', bd_s]
    · obtain ⟨S3, d3, o3, k3, _⟩ := m_open (hm.mOk hx)
      rw [e2 S hm, if_pos th, if_pos tj, d3, bd_s, if_pos (show nI 1 = 1 from rfl), n3m, gd_t (zib_nI (by omega) (by decide)), zix_nI (by omega), (o3.1.ch hh).1]
      by_cases c0 : T 0 h = 0
      · obtain ⟨S5, d5, f5⟩ := m_close k3
        refine ⟨S5, ?_, f5⟩
        rw [if_pos (show nI (T 0 h) = 0 by rw [c0]; rfl), if_pos c0]
        unfold f_X7_lasts_47
        rw [show zN = 3999 + 1 from rfl, f_X7_lasts_50, if_neg (by decide), if_neg (by decide), d5, bd_s]
        rfl
      · obtain ⟨S4, d4, k4⟩ := m_last (c := fun x22 s23 => bd (f_X7_lays s23) fun _ s25 => some (x22, s25)) (w := 1) (by omega) zN 1 999 S3 T o3 hh (by omega) (by omega) (by omega) (by unfold zN; omega) k3
        obtain ⟨S5, d5, f5⟩ := m_close k4
        refine ⟨S5, ?_, f5⟩
        rw [if_neg (show ¬ nI (T 0 h) = 0 from nI_ne0 (by omega) (by omega)), if_neg c0]
        unfold f_X7_lasts_47
        have d4' := d4.trans (show _ = some (lastH (evP P) h 40 1 T, S5) by rw [if_neg (by decide), d5, bd_s])
        exact d4'

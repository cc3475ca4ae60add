-- told nights
def unlF (E : zEv) (C : Nat → Int32) (h : Nat) : Nat → Nat → zT → Int32
  | 0, _, _ => -1
  | r + 1, i, T => if nI ((nightT E T).2 0 h) = C i then unlF E C h r (i + 1) (nightT E T).2 else nI i
theorem nI40 (j i : Nat) : nI j * 40 + nI i = nI (40 * j + i) := by rw [show (40 : Int32) = nI 40 from rfl, nI_mul, nI_add, Nat.mul_comm]
theorem nI40' (j i : Nat) : (40 : Int32) * nI j + nI i = nI (40 * j + i) := by rw [show (40 : Int32) = nI 40 from rfl, nI_mul, nI_add]
theorem k_unlL {E : zEv} {K h j z : Nat} {C : Nat → Int32} (hj : j < 4) (hz : z ≤ 20) : ∀ (n i M : Nat) (s : zMem) (T : zT), kOk E K M 20 s T → h < T 9 0 → M ≤ 999 + i → i ≤ z → z - i < n → (∀ i, i < z → s 45 (40 * j + i) = C i) → ∃ S, f_X6_firstOtherwise_13 n (nI j) (nI h) (nI z) (nI i) s = some (unlF E C h (z - i) i T, S) := by
  intro n
  induction n with
  | zero => intro i M s T _ _ _ _ hn; omega
  | succ n ih =>
    intro i M s T o hh hM hi hn hC
    have h6 := o.2.2.1.1
    rw [f_X6_firstOtherwise_13]
    by_cases q : z ≤ i
    · rw [if_pos (nI_le q (by omega)), show z - i = 0 by omega]
      exact ⟨s, rfl⟩
    · obtain ⟨S1, e1, o1⟩ := k_night o (by omega)
      have f1 : ∀ k, S1 45 k = s 45 k := fun k => fr_X5_passNight 45 k (by omega) rfl _ S1 e1
      have n9 : h < (nightT E T).2 9 0 := by rw [nightT_9.1]; exact hh
      have c1 : S1 21 h = nI ((nightT E T).2 0 h) := (o1.2.1.ch n9).1
      rw [if_neg (nI_ge (by omega) (by omega)), e1, bd_s, gd_t (zib_nI (by omega) (by decide))]
      unfold f_X3_at
      rw [nI40, gd_t (zib_nI (by omega) (by decide)), bd_s, zix_nI (by omega), zix_nI (by omega), c1, f1, hC i (by omega), show z - i = (z - (i + 1)) + 1 by omega]
      unfold unlF
      by_cases c : nI ((nightT E T).2 0 h) = C i
      · rw [if_pos c, if_pos c, nm_eq, nI_1]
        exact ih (i + 1) _ S1 _ o1 n9 (by omega) (by omega) (by omega) (fun i hi => by rw [f1, hC i hi])
      · rw [if_neg c, if_neg c]
        exact ⟨S1, rfl⟩
theorem k_unl {E : zEv} {K h j z : Nat} {C : Nat → Int32} {s : zMem} {T : zT} (o : kOk E K 999 20 s T) (hj : j < 4) (hz : z ≤ 20) (hh : h < T 9 0) (h44 : s 44 j = nI z) (hC : ∀ i, i < z → s 45 (40 * j + i) = C i) : ∃ S, f_X6_firstOtherwise (nI j) (nI h) s = some (unlF E C h z 0 T, S) := by
  unfold f_X6_firstOtherwise f_X3_sizeOf
  rw [gd_t (zib_nI (by omega) (by decide)), bd_s, zix_nI (by omega), h44]
  exact k_unlL hj hz zN 0 999 s T o hh (by omega) (by omega) (by unfold zN; omega) hC
theorem m_unlL {E : zEv} {K h j z : Nat} {C : Nat → Int32} {s0 : zMem} {c : Int32 → zMem → Option (Int32 × zMem)} (hj : j < 4) (hz : z ≤ 20) : ∀ (n i M : Nat) (s : zMem) (T : zT), mOk E K M s T → h < T 9 0 → M ≤ 999 + i → i ≤ z → z - i + 1 < n → s 61 j = nI z → (∀ i, i < z → s 62 (40 * j + i) = C i) → WK s0 s → ∃ S, f_X7_unlike_9 c n (nI j) (nI h) (-1) (nI i) s = c (unlF E C h (z - i) i T) S ∧ WK s0 S := by
  intro n
  induction n with
  | zero => intro i M s T _ _ _ _ hn; omega
  | succ n ih =>
    intro i M s T o hh hM hi hn h61 hC hk
    have h6 := o.2.1.1
    rw [f_X7_unlike_9, gd_t (zib_nI (by omega) (by decide)), zix_nI (by omega), h61]
    by_cases q : z ≤ i
    · rw [if_pos (nI_le q (by omega)), show z - i = 0 by omega]
      exact ⟨s, rfl, hk⟩
    · obtain ⟨S1, e1, o1⟩ := m_night o (by omega)
      have f1 := fr_night e1
      have n9 : h < (nightT E T).2 9 0 := by rw [nightT_9.1]; exact hh
      have hk1 := hk.fr f1
      have s61 : S1 61 j = nI z := by rw [f1 _ _ (by omega), h61]
      rw [if_neg (nI_ge (by omega) (by omega)), if_pos rfl, e1, bd_s, nI40', n3m, gd_t (zib_nI (by omega) (by decide)), gd_t (zib_nI (by omega) (by decide)), zix_nI (by omega), zix_nI (by omega), (o1.1.ch n9).1, f1 _ _ (by omega), hC i (by omega), show z - i = (z - (i + 1)) + 1 by omega]
      unfold unlF
      by_cases cc : nI ((nightT E T).2 0 h) = C i
      · rw [if_pos cc.symm, if_pos cc, nm_eq, nI_1]
        exact ih (i + 1) _ S1 _ o1 n9 (by omega) (by omega) (by omega) s61 (fun i hi => by rw [f1 _ _ (by omega), hC i hi]) hk1
      · rw [if_neg (fun r => cc r.symm), if_neg cc, nm_eq, nI_1]
        cases n with
        | zero => omega
        | succ m =>
          rw [f_X7_unlike_9, gd_t (zib_nI (by omega) (by decide)), if_neg (nIm1 (by omega))]
          refine ⟨S1, ?_, hk1⟩
          split <;> rfl
theorem m_unl {E : zEv} {K h j z : Nat} {C : Nat → Int32} {s : zMem} {T : zT} (o : mOk E K 999 s T) (hj : j < 4) (hz : z ≤ 20) (hh : h < T 9 0) (h61 : s 61 j = nI z) (hC : ∀ i, i < z → s 62 (40 * j + i) = C i) : ∃ S, f_X7_unlike (nI j) (nI h) s = some (unlF E C h z 0 T, S) ∧ ∀ a k, cM a k → S a k = s a k := by
  obtain ⟨S1, e1, o1, k1, f1⟩ := m_open o
  obtain ⟨S2, e2, k2⟩ := m_unlL (c := fun x12 s13 => bd (f_X7_lays s13) fun _ s15 => some (x12, s15)) hj hz zN 0 999 S1 T o1 hh (by omega) (by omega) (by unfold zN; omega) (by rw [f1 _ _ (by omega), h61]) (fun i hi => by rw [f1 _ _ (by omega), hC i hi]) k1
  obtain ⟨S3, e3, f3⟩ := m_close k2
  unfold f_X7_unlike
  rw [e1, bd_s]
  refine ⟨S3, e2.trans ?_, f3⟩
  rw [e3, bd_s]
  rfl
-- whether a sheet can be judged by
def tellV (Z : zZ) (p : Int32) : Int32 := if 0 ≤ p ∧ p ≤ 3 then (if Z 0 (zix p) = -1 then -11 else if Z 1 (zix p) ≤ 20 then 0 else -2) else -2
def tellH (Z : zZ) (p h : Int32) (H : Nat) : Int32 := if tellV Z p = 0 then (if 0 ≤ h ∧ h < nI H then 0 else -5) else tellV Z p
theorem k_sheetP (p : Int32) (s : zMem) : f_X3_isSheet p s = some (if 0 ≤ p ∧ p ≤ 3 then 1 else 0, s) := by
  unfold f_X3_isSheet
  have e : (0 ≤ p ∧ p ≤ 3) ↔ (¬ p < 0 ∧ ¬ 4 ≤ p) := by
    rw [Int32.le_iff_toInt_le, Int32.le_iff_toInt_le, Int32.lt_iff_toInt_lt, Int32.le_iff_toInt_le]
    have u0 : (0 : Int32).toInt = 0 := rfl
    have u3 : (3 : Int32).toInt = 3 := rfl
    have u4 : (4 : Int32).toInt = 4 := rfl
    omega
  by_cases c1 : p < 0
  · rw [if_pos c1, if_neg (fun r => (e.mp r).1 c1)]
  · rw [if_neg c1]
    by_cases c2 : 4 ≤ p
    · rw [if_pos c2, if_neg (fun r => (e.mp r).2 c2)]
    · rw [if_neg c2, if_pos (e.mpr ⟨c1, c2⟩)]
theorem k_tell {T U : zT} {P : zP} {K F z : Nat} {B : Nat → Nat} {Z : zZ} {s : zMem} (hc : zRC T U P K F z B Z s) (p : Int32) : f_X6_toldRefusal p s = some (tellV Z p, s) := by
  unfold f_X6_toldRefusal tellV
  rw [k_sheetP, bd_s, zif01]
  by_cases c1 : 0 ≤ p ∧ p ≤ 3
  · obtain ⟨j, hj, rfl⟩ := (pk_in2 p 3 (by omega)).resolve_left (fun r => r c1)
    obtain ⟨y0, y1⟩ := hc.2.2.2.2.2.2.1 j (by omega)
    unfold f_X3_isMissing f_X3_sizeOf
    rw [if_pos c1, if_pos c1, gd_t (zib_nI (by omega) (by decide)), zix_nI (by omega), y0]
    by_cases c2 : Z 0 j = -1
    · rw [if_pos c2, bd_s, if_neg (by decide), if_pos c2]
    · rw [if_neg c2, bd_s, if_pos rfl, gd_t (zib_nI (by omega) (by decide)), bd_s, y1, if_neg c2]
      by_cases c3 : Z 1 j ≤ 20
      · rw [if_pos c3, if_pos c3]
      · rw [if_neg c3, if_neg c3]
  · rw [if_neg c1, if_neg c1]
theorem m_tell {T U : zT} {P : zP} {K F z : Nat} {B : Nat → Nat} {Z : zZ} {s : zMem} (hm : zRM T U P K F z B Z s) (p : Int32) : f_X7_sheetWrong p s = some (tellV Z p, s) := by
  unfold f_X7_sheetWrong tellV
  rw [k_in, bd_s, zif01]
  by_cases c1 : 0 ≤ p ∧ p ≤ 3
  · obtain ⟨j, hj, rfl⟩ := (pk_in2 p 3 (by omega)).resolve_left (fun r => r c1)
    obtain ⟨y0, y1⟩ := hm.2.2.2.2.2.2.1 j (by omega)
    rw [if_pos c1, if_pos c1, gd_t (zib_nI (by omega) (by decide)), zix_nI (by omega), y0]
    by_cases c2 : Z 0 j = -1
    · rw [if_pos c2, if_pos c2]
    · rw [if_neg c2, gd_t (zib_nI (by omega) (by decide)), y1, if_neg c2]
      by_cases c3 : Z 1 j ≤ 20
      · rw [if_pos c3, if_pos c3]
      · rw [if_neg c3, if_neg c3]
  · rw [if_neg c1, if_neg c1]
theorem tellV_0 {Z : zZ} {p : Int32} (hz : shOk Z) (h : tellV Z p = 0) : ∃ j n, j < 4 ∧ n ≤ 20 ∧ p = nI j ∧ Z 1 j = nI n := by
  unfold tellV at h
  by_cases c1 : 0 ≤ p ∧ p ≤ 3
  · obtain ⟨j, hj, rfl⟩ := (pk_in2 p 3 (by omega)).resolve_left (fun r => r c1)
    rw [if_pos c1, zix_nI (by omega)] at h
    obtain ⟨_, n, hn, e⟩ := hz j (by omega)
    by_cases c2 : Z 0 j = -1
    · rw [if_pos c2] at h; cases h
    · rw [if_neg c2] at h
      by_cases c3 : Z 1 j ≤ 20
      · rw [e] at c3
        exact ⟨j, n, by omega, (nI_leI (b := 20) (by omega) (by omega)).mp c3, rfl, e⟩
      · rw [if_neg c3] at h; cases h
  · rw [if_neg c1] at h; cases h
theorem k_tellH {T U : zT} {P : zP} {K F z : Nat} {B : Nat → Nat} {Z : zZ} {s : zMem} (hc : zRC T U P K F z B Z s) (p h : Int32) : f_X6_judgeRefusal p h s = some (tellH Z p h (T 9 0), s) := by
  unfold f_X6_judgeRefusal tellH
  rw [k_tell hc, bd_s]
  by_cases c : tellV Z p = 0
  · rw [if_pos c, if_pos c, k_hutP h hc.1.c0.1, bd_s, zif01, c]
    by_cases c2 : 0 ≤ h ∧ h < nI (T 9 0)
    · rw [if_pos c2, if_pos c2]
    · rw [if_neg c2, if_neg c2]
  · rw [if_neg c, if_neg c]
theorem m_tellH {T U : zT} {P : zP} {K F z : Nat} {B : Nat → Nat} {Z : zZ} {s : zMem} (hx : zRX T U P K F Z) (hm : zRM T U P K F z B Z s) (p h : Int32) : f_X7_toldWrong p h s = some (tellH Z p h (T 9 0), s) := by
  have h6 := hx.1.1
  unfold f_X7_toldWrong tellH
  rw [m_tell hm, bd_s]
  by_cases c : tellV Z p = 0
  · rw [if_pos c, if_pos c, m_hutP h hm.1.c0.1 (by omega), bd_s, zif01]
    by_cases c2 : 0 ≤ h ∧ h < nI (T 9 0)
    · rw [if_pos c2, if_pos c2]
    · rw [if_neg c2, if_neg c2]
  · rw [if_neg c, if_neg c]
theorem tellH_0 {Z : zZ} {p h : Int32} {H : Nat} (hz : shOk Z) (hH : H ≤ 6) (e : tellH Z p h H = 0) : ∃ j n i, j < 4 ∧ n ≤ 20 ∧ p = nI j ∧ Z 1 j = nI n ∧ i < H ∧ h = nI i := by
  unfold tellH at e
  by_cases c : tellV Z p = 0
  · rw [if_pos c] at e
    obtain ⟨j, n, a, b, d, f⟩ := tellV_0 hz c
    by_cases c2 : 0 ≤ h ∧ h < nI H
    · obtain ⟨i, hi, rfl⟩ := (ltP h H (by omega)).resolve_left (fun r => r c2)
      exact ⟨j, n, i, a, b, d, f, hi, rfl⟩
    · rw [if_neg c2] at e; cases e
  · rw [if_neg c] at e; exact absurd e c
abbrev shC (Z : zZ) (j : Nat) : Nat → Int32 := fun i => Z 2 (40 * j + i)
/-- what the class's thought sees of a sheet -/
theorem k_isT {E : zEv} {K h j z : Nat} {C : Nat → Int32} {s : zMem} {T : zT} (o : kOk E K 999 20 s T) (hj : j < 4) (hz : z ≤ 20) (hh : h < T 9 0) (h44 : s 44 j = nI z) (hC : ∀ i, i < z → s 45 (40 * j + i) = C i) : ∃ S, f_X6_isTold (nI j) (nI h) s = some (if unlF E C h z 0 T = -1 then 1 else 0, S) ∧ (∀ a k, a < 19 → a ≠ 4 → S a k = s a k) ∧ (∀ k, S 44 k = s 44 k) ∧ ∀ k, S 45 k = s 45 k := by
  obtain ⟨S, e⟩ := k_unl o hj hz hh h44 hC
  refine ⟨S, ?_, fun a k h1 h2 => fr_X6_firstOtherwise a k (by omega) rfl _ S e, fun k => fr_X6_firstOtherwise 44 k (by omega) rfl _ S e, fun k => fr_X6_firstOtherwise 45 k (by omega) rfl _ S e⟩
  unfold f_X6_isTold
  rw [e, bd_s]
  split <;> rfl
theorem step_judge (p h : Int32) : stepOk (f_X6_judge p h) (f_X7_judge p h) := by
  refine step_q (fun a k v s hk e => fr_X6_judge a k (by unfold cC at hk; omega) e) (fun a k v s hk e => fr_X7_judge a k (by omega) e) ?_
  intro T U P K F z B Z s hx hc
  have h6 := hx.1.1
  unfold f_X6_judge f_X7_judge
  rw [k_tellH hc, bd_s]
  by_cases c : tellH Z p h (T 9 0) = 0
  · obtain ⟨j, n, i, hj, hn, rfl, e1, hi, rfl⟩ := tellH_0 hx.2.2.2.2.2 h6 c
    obtain ⟨S1, t1, o1⟩ := k_think (hc.kOk hx)
    have f44 : ∀ k, S1 44 k = s 44 k := fun k => fr_X6_think 44 k (by omega) rfl _ S1 t1
    have f45 : ∀ k, S1 45 k = s 45 k := fun k => fr_X6_think 45 k (by omega) rfl _ S1 t1
    obtain ⟨S2, t2⟩ := k_unl (C := shC Z j) o1 hj hn hi (by rw [f44, (hc.2.2.2.2.2.2.1 j hj).2, e1]) (fun q hq => by rw [f45, hc.2.2.2.2.2.2.2 _ (by omega)])
    rw [if_pos c, t1, bd_s, t2, bd_s]
    refine ⟨_, S2, rfl, fun S hm => ?_⟩
    obtain ⟨S3, t3, f3⟩ := m_unl (C := shC Z j) (hm.mOk hx) hj hn hi (by rw [(hm.2.2.2.2.2.2.1 j hj).2, e1]) (fun q hq => by rw [hm.2.2.2.2.2.2.2.1 _ (by omega)])
    rw [m_tellH hx hm, bd_s, if_pos c, t3, bd_s]
    exact ⟨S3, rfl, f3⟩
  · rw [if_neg c]
    refine ⟨_, s, rfl, fun S hm => ⟨S, ?_, fun _ _ _ => rfl⟩⟩
    rw [m_tellH hx hm, bd_s, if_neg c]
-- bits over what is told
def bitF (t : Nat → Int32) : Nat → Nat → Int32 → Int32
  | 0, _, x => x
  | r + 1, i, x => bitF t r (i + 1) (if t i = -1 then x ||| (1 <<< (nI i &&& 31)) else x)
theorem or_0 (x : Int32) : x ||| 0 = x := by
  apply Int32.toBitVec_inj.mp
  rw [Int32.toBitVec_or]
  show x.toBitVec ||| 0#32 = x.toBitVec
  simp
theorem k_whose {E : zEv} {K j z : Nat} {C : Nat → Int32} {T : zT} (hj : j < 4) (hz : z ≤ 20) : ∀ (n i : Nat) (x : Int32) (s : zMem), kOk E K 999 9 s T → i ≤ T 9 0 → T 9 0 - i < n → s 44 j = nI z → (∀ i, i < z → s 45 (40 * j + i) = C i) → ∃ S, f_X6_whose_17 n (nI j) x (nI i) s = some (bitF (fun h => unlF E C h z 0 T) (T 9 0 - i) i x, S) := by
  intro n
  induction n with
  | zero => intro i x s _ _ hn; omega
  | succ n ih =>
    intro i x s o hi hn h44 hC
    have h6 := o.2.2.1.1
    rw [f_X6_whose_17, show s 9 9 = nI (T 9 0) from o.2.1.c0.1]
    by_cases q : T 9 0 ≤ i
    · rw [if_pos (nI_le q (by omega)), show T 9 0 - i = 0 by omega]
      exact ⟨s, rfl⟩
    · obtain ⟨S1, t1, o1⟩ := k_think o
      have f1 : ∀ a k, (a < 19 ∧ a ≠ 4) ∨ a = 44 ∨ a = 45 → S1 a k = s a k := fun a k hk => fr_X6_think a k (by omega) rfl _ S1 t1
      obtain ⟨S2, t2, g1, g2, g3⟩ := k_isT (C := C) o1 hj hz (h := i) (by omega) (by rw [f1 _ _ (by omega), h44]) (fun q hq => by rw [f1 _ _ (by omega), hC q hq])
      have now : kOk E K 999 9 S2 T := k_now o (fun a k h1 h2 => by rw [g1 a k h1 h2, f1 a k (by omega)])
      rw [if_neg (nI_ge (by omega) (by omega)), t1, bd_s, t2, bd_s, zif01, show T 9 0 - i = (T 9 0 - (i + 1)) + 1 by omega]
      unfold bitF
      by_cases c : unlF E C i z 0 T = -1
      · rw [if_pos c, if_pos c, nm_eq, nm_eq, nI_1]
        exact ih (i + 1) _ S2 now (by omega) (by omega) (by rw [g2, f1 _ _ (by omega), h44]) (fun q hq => by rw [g3, f1 _ _ (by omega), hC q hq])
      · rw [if_neg c, if_neg c, nm_eq, nI_1]
        exact ih (i + 1) _ S2 now (by omega) (by omega) (by rw [g2, f1 _ _ (by omega), h44]) (fun q hq => by rw [g3, f1 _ _ (by omega), hC q hq])
theorem m_whose {E : zEv} {K j z : Nat} {C : Nat → Int32} {T : zT} (hj : j < 4) (hz : z ≤ 20) : ∀ (n i : Nat) (x : Int32) (s : zMem), mOk E K 999 s T → i ≤ T 9 0 → T 9 0 - i < n → s 61 j = nI z → (∀ i, i < z → s 62 (40 * j + i) = C i) → ∃ S, f_X7_whose_17 n (nI j) x (nI i) s = some (bitF (fun h => unlF E C h z 0 T) (T 9 0 - i) i x, S) ∧ ∀ a k, cM a k → S a k = s a k := by
  intro n
  induction n with
  | zero => intro i x s _ _ hn; omega
  | succ n ih =>
    intro i x s o hi hn h61 hC
    have h6 := o.2.1.1
    rw [f_X7_whose_17, o.1.c0.1]
    by_cases q : T 9 0 ≤ i
    · rw [if_pos (nI_le q (by omega)), show T 9 0 - i = 0 by omega]
      exact ⟨s, rfl, fun _ _ _ => rfl⟩
    · obtain ⟨S2, t2, g⟩ := m_unl (C := C) o hj hz (h := i) (by omega) h61 hC
      rw [if_neg (nI_ge (by omega) (by omega)), t2, bd_s, show T 9 0 - i = (T 9 0 - (i + 1)) + 1 by omega]
      have go : ∀ y : Int32, ∃ S, f_X7_whose_17 n (nI j) y (nI (i + 1)) S2 = some (bitF (fun h => unlF E C h z 0 T) (T 9 0 - (i + 1)) (i + 1) y, S) ∧ ∀ a k, cM a k → S a k = s a k := by
        intro y
        obtain ⟨S, e, f⟩ := ih (i + 1) y S2 (m_now o g) (by omega) (by omega) (by rw [g _ _ (by unfold cM; omega), h61]) (fun q hq => by rw [g _ _ (by unfold cM; omega), hC q hq])
        exact ⟨S, e, fun a k hk => by rw [f a k hk, g a k hk]⟩
      unfold bitF
      by_cases c : unlF E C i z 0 T = -1
      · rw [if_pos c, if_pos c, nm_eq, nm_eq, nI_1]
        exact go _
      · rw [if_neg c, if_neg c, nm_eq, nm_eq, nI_1, or_0]
        exact go _
theorem step_whose (p : Int32) : stepOk (f_X6_whose p) (f_X7_whose p) := by
  refine step_q (fun a k v s hk e => fr_X6_whose a k (by unfold cC at hk; omega) e) (fun a k v s hk e => fr_X7_whose a k (by omega) e) ?_
  intro T U P K F z B Z s hx hc
  have h6 := hx.1.1
  unfold f_X6_whose f_X7_whose
  rw [k_tell hc, bd_s]
  by_cases c : tellV Z p = 0
  · obtain ⟨j, n, hj, hn, rfl, e1⟩ := tellV_0 hx.2.2.2.2.2 c
    obtain ⟨S2, t2⟩ := k_whose (C := shC Z j) (T := T) hj hn zN 0 0 s (hc.kOk hx) (by omega) (by unfold zN; omega) (by rw [(hc.2.2.2.2.2.2.1 j hj).2, e1]) (fun q hq => by rw [hc.2.2.2.2.2.2.2 _ (by omega)])
    rw [if_pos c]
    refine ⟨_, S2, t2, fun S hm => ?_⟩
    obtain ⟨S3, t3, f3⟩ := m_whose (C := shC Z j) (T := T) hj hn zN 0 0 S (hm.mOk hx) (by omega) (by unfold zN; omega) (by rw [(hm.2.2.2.2.2.2.1 j hj).2, e1]) (fun q hq => by rw [hm.2.2.2.2.2.2.2.1 _ (by omega)])
    rw [m_tell hm, bd_s, if_pos c]
    exact ⟨S3, t3, f3⟩
  · rw [if_neg c]
    refine ⟨_, s, rfl, fun S hm => ⟨S, ?_, fun _ _ _ => rfl⟩⟩
    rw [m_tell hm, bd_s, if_neg c]

-- the model reads a token
def tpM (B : Nat → Nat) (z : Nat) (s : zMem) : Prop := s 47 11 = nI z ∧ z ≤ 160 ∧ ∀ i, i < z → s 55 i = nI (B i) ∧ B i < 256
def wdM (s : zMem) : Prop := ∀ k, k < 12 → ∀ c, c < 8 → s 64 (8 * k + c) = nI ((wdN k).getD c 32)
theorem tpM.of {B : Nat → Nat} {z : Nat} {s S : zMem} (h : tpM B z s) (h1 : S 47 11 = s 47 11) (h2 : ∀ i, i < z → S 55 i = s 55 i) : tpM B z S := ⟨by rw [h1]; exact h.1, h.2.1, fun i hi => by rw [h2 i hi]; exact h.2.2 i hi⟩
theorem wdM.of {s S : zMem} (h : wdM s) (h1 : ∀ k, S 64 k = s 64 k) : wdM S := fun k hk c hc => by rw [h1]; exact h k hk c hc
def pmt (B : Nat → Nat) (b e k : Nat) : Nat → Nat → Bool
  | 0, _ => true
  | n + 1, c => decide ((wdN k).getD c 32 = if b + c < e then B (b + c) else 32) && pmt B b e k n (c + 1)
theorem wd_lt : ∀ k, k < 12 → (wdN k).length ≤ 8 ∧ 0 < (wdN k).length ∧ ∀ c, c < 8 → (wdN k).getD c 32 < 256 ∧ (c < (wdN k).length → (wdN k).getD c 32 ≠ 32 ∧ (wdN k).getD c 32 = (wdN k).getD c 0) ∧ ((wdN k).length ≤ c → (wdN k).getD c 32 = 32) := by decide +kernel
theorem pmt_at {B : Nat → Nat} {b e k : Nat} : ∀ n c, pmt B b e k n c = true ↔ ∀ j, c ≤ j → j < c + n → (wdN k).getD j 32 = if b + j < e then B (b + j) else 32 := by
  intro n
  induction n with
  | zero => intro c; exact ⟨fun _ j h1 h2 => by omega, fun _ => rfl⟩
  | succ n ih =>
    intro c
    unfold pmt
    simp only [Bool.and_eq_true, decide_eq_true_eq]
    rw [ih (c + 1)]
    constructor
    · rintro ⟨h1, h2⟩ j g1 g2
      by_cases q : j = c
      · rw [q]; exact h1
      · exact h2 j (by omega) (by omega)
    · intro h
      exact ⟨h c (by omega) (by omega), fun j g1 g2 => h j (by omega) (by omega)⟩
theorem isWd_pmt {B : Nat → Nat} {b e k : Nat} (hk : k < 12) (hbe : b ≤ e) (hl : ∀ i, b ≤ i → i < e → B i ≠ 32) : isWd B b e k = (decide (e - b ≤ 8) && pmt B b e k 8 0) := by
  obtain ⟨w8, w0, wc⟩ := wd_lt k hk
  rw [Bool.eq_iff_iff]
  unfold isWd
  simp only [Bool.and_eq_true, decide_eq_true_eq]
  constructor
  · rintro ⟨h1, h2⟩
    refine ⟨by omega, (pmt_at 8 0).mpr (fun j _ hj => ?_)⟩
    have hj8 : j < 8 := by omega
    by_cases q : j < (wdN k).length
    · rw [if_pos (by omega), ((wc j hj8).2.1 q).2]
      exact (mt_at _ _ h2 j q).symm
    · rw [if_neg (by omega), (wc j hj8).2.2 (by omega)]
  · rintro ⟨h1, h2⟩
    have h3 := (pmt_at 8 0).mp h2
    have he : e - b = (wdN k).length := by
      by_cases q : e - b < (wdN k).length
      · have := h3 (e - b) (by omega) (by omega)
        rw [if_neg (by omega)] at this
        exact absurd this ((wc _ (by omega)).2.1 q).1
      · by_cases q2 : (wdN k).length < e - b
        · have := h3 (wdN k).length (by omega) (by omega)
          rw [if_pos (by omega), (wc _ (by omega)).2.2 (Nat.le_refl _)] at this
          exact absurd this.symm (hl _ (by omega) (by omega))
        · omega
    refine ⟨he, at_mt _ _ (fun i hi => ?_)⟩
    have := h3 i (by omega) (by omega)
    rw [if_pos (by omega), ((wc i (by omega)).2.1 hi).2] at this
    exact this.symm
theorem m_wfL {B : Nat → Nat} {z b e k : Nat} {s : zMem} {c : Int32 → Int32 → Int32 → Int32 → zMem → Option (Int32 × zMem)} (h : tpM B z s) (hw : wdM s) (hk : k < 12) (hb : b ≤ e) (he : e ≤ z) : ∀ (n j : Nat) (like : Bool), j ≤ 8 → 8 - j < n → f_X7_wordFrom_26 c n (nI b) (nI e) (nI k) (if like = true then 1 else 0) (nI j) s = c (nI b) (nI e) (nI k) (if (like && pmt B b e k (8 - j) j) = true then 1 else 0) s := by
  have hz := h.2.1
  intro n
  induction n with
  | zero => intro j like _ h; omega
  | succ n ih =>
    intro j like hj hn
    rw [f_X7_wordFrom_26]
    by_cases q : 8 ≤ j
    · rw [if_pos (show (8 : Int32) ≤ nI j from nI_le (a := 8) q (by omega)), show 8 - j = 0 by omega, pmt, Bool.and_true]
    · rw [if_neg (show ¬ (8 : Int32) ≤ nI j from nI_ge (b := 8) (by omega) (by omega))]
      cases like with
      | false => rfl
      | true =>
        have e8 : (8 : Int32) * nI k + nI j = nI (8 * k + j) := by rw [show (8 : Int32) = nI 8 from rfl, nI_mul, nI_add]
        rw [if_pos rfl, if_neg (by decide), e8, gd_t (zib_nI (by omega) (by decide)), zix_nI (by omega), hw k hk j (by omega), nI_add]
        have hwl := ((wd_lt k hk).2.2 j (by omega)).1
        have ep : pmt B b e k (8 - j) j = (decide ((wdN k).getD j 32 = if b + j < e then B (b + j) else 32) && pmt B b e k (8 - (j + 1)) (j + 1)) := by rw [show 8 - j = (8 - (j + 1)) + 1 by omega, pmt]
        by_cases q1 : e ≤ b + j
        · rw [if_neg (by omega)] at ep
          rw [if_pos (nI_le q1 (by omega))]
          have e32 : (nI ((wdN k).getD j 32) = 32) = ((wdN k).getD j 32 = 32) := nI_lit 32 (by omega) (by omega)
          by_cases q2 : (wdN k).getD j 32 = 32
          · rw [decide_eq_true q2, Bool.true_and] at ep
            rw [if_pos (e32.mpr q2), nm_eq, nI_1, ep]
            exact ih (j + 1) true (by omega) (by omega)
          · rw [decide_eq_false q2, Bool.false_and] at ep
            rw [if_neg (fun r => q2 (e32.mp r)), nm_eq, nI_1, ep]
            exact ih (j + 1) false (by omega) (by omega)
        · have hB := h.2.2 (b + j) (by omega)
          rw [if_pos (by omega)] at ep
          rw [if_neg (nI_ge (by omega) (by omega)), gd_t (zib_nI (by omega) (by decide)), zix_nI (by omega), hB.1]
          have e32 : (nI ((wdN k).getD j 32) = nI (B (b + j))) = ((wdN k).getD j 32 = B (b + j)) := nI_lit _ (by omega) (by omega)
          by_cases q2 : (wdN k).getD j 32 = B (b + j)
          · rw [decide_eq_true q2, Bool.true_and] at ep
            rw [if_pos (e32.mpr q2), nm_eq, nI_1, ep]
            exact ih (j + 1) true (by omega) (by omega)
          · rw [decide_eq_false q2, Bool.false_and] at ep
            rw [if_neg (fun r => q2 (e32.mp r)), nm_eq, nI_1, ep]
            exact ih (j + 1) false (by omega) (by omega)
theorem m_wf {B : Nat → Nat} {z b e : Nat} {s : zMem} (h : tpM B z s) (hw : wdM s) (hb : b ≤ e) (he : e ≤ z) (hl : ∀ i, b ≤ i → i < e → B i ≠ 32) : ∀ (n k : Nat), k ≤ 12 → 12 - k < n → f_X7_wordFrom_2 n (nI b) (nI e) (nI k) s = some (nI (wixF B b e (12 - k) k), s) := by
  have hz := h.2.1
  intro n
  induction n with
  | zero => intro k _ h; omega
  | succ n ih =>
    intro k hk hn
    rw [f_X7_wordFrom_2]
    by_cases q : 12 ≤ k
    · rw [if_pos (show (12 : Int32) ≤ nI k from nI_le (a := 12) q (by omega)), show 12 - k = 0 by omega]
      rfl
    · have hk2 : k < 12 := by omega
      have hsub : nI e - nI b = nI (e - b) := nI_sub hb
      rw [if_neg (show ¬ (12 : Int32) ≤ nI k from nI_ge (b := 12) (by omega) (by omega)), hsub]
      have key : ∀ like : Bool, like = decide (e - b ≤ 8) → f_X7_wordFrom_21 (fun x20 x21 x22 s23 => f_X7_wordFrom_2 n x20 x21 x22 s23) (nI b) (nI e) (nI k) (if like = true then 1 else 0) s = some (nI (wixF B b e (12 - k) k), s) := by
        intro like hlk
        unfold f_X7_wordFrom_21
        have := m_wfL (c := fun x20 x21 x22 x23 s24 => if x23 = 0 then nm (x22 + 1) fun x25 => f_X7_wordFrom_2 n x20 x21 x25 s24 else some (x22, s24)) h hw hk2 hb he zN 0 like (by omega) (by unfold zN; omega)
        rw [zn0] at this
        refine this.trans ?_
        rw [hlk, ← isWd_pmt hk2 hb hl, show 12 - k = (12 - (k + 1)) + 1 by omega, wixF]
        by_cases c : isWd B b e k = true
        · rw [if_pos c, if_pos c, if_neg (by decide)]
        · rw [if_neg c, if_neg c, if_pos rfl, nm_eq, nI_1]
          exact ih (k + 1) (by omega) (by omega)
      by_cases q8 : e - b ≤ 8
      · rw [if_neg (show ¬ (8 : Int32) < nI (e - b) from nI_nlt (a := 8) (b := e - b) q8 (by omega))]
        exact key true (decide_eq_true q8).symm
      · rw [if_pos (show (8 : Int32) < nI (e - b) from nI_lt (a := 8) (by omega) (by omega))]
        exact key false (decide_eq_false q8).symm
theorem adv_in {f : Nat → Bool} {B : Nat → Nat} {z : Nat} : ∀ n q i, q ≤ i → i < adv f B z n q → f (B i) = true := by
  intro n
  induction n with
  | zero => intro q i h1 h2; rw [adv] at h2; omega
  | succ n ih =>
    intro q i h1 h2
    rw [adv] at h2
    split at h2
    · rename_i h
      by_cases c : i = q
      · rw [c]; exact h.2
      · exact ih (q + 1) i (by omega) h2
    · omega
theorem run_ne {B : Nat → Nat} (z b : Nat) : ∀ i, b ≤ i → i < run isLe B z b → B i ≠ 32 := by
  intro i h1 h2 h3
  have := adv_in (f := isLe) (B := B) _ _ i h1 h2
  rw [h3] at this
  exact absurd this (by decide)
def tkM (k : Nat) : Int32 := if k = 0 then 0 else if k = 1 then -1 else if k = 2 then 1 else if k = 3 then 2 else if k ≤ 6 then 3 else if k ≤ 9 then nI (k - 3) else nI k
theorem m_in {b : Nat} (lo hi : Nat) (h : b < 256) (h1 : lo < 256) (h2 : hi < 256) (s : zMem) : f_X7_in (nI b) (nI lo) (nI hi) s = some (if (decide (lo ≤ b) && decide (b ≤ hi)) = true then 1 else 0, s) := by
  rw [k_in]
  have := ft_nI (lo := lo) (hi := hi) h h1 h2
  by_cases q : lo ≤ b ∧ b ≤ hi
  · rw [if_pos (this.mpr q), if_pos (by simp [q])]
  · rw [if_neg (fun r => q (this.mp r)), if_neg (by simp; omega)]
theorem m_skip {B : Nat → Nat} {z : Nat} {c : zMem → Option (Unit × zMem)} : ∀ (n q : Nat) (s : zMem), tpM B z s → q ≤ z → z - q < n → s 47 23 = nI q → ∃ S, f_X7_next_0 c n s = c S ∧ S 47 23 = nI (run isBl B z q) ∧ (∀ a k, ¬ (a = 47 ∧ k = 23) → S a k = s a k) := by
  intro n
  induction n with
  | zero => intro q s _ _ h; omega
  | succ n ih =>
    intro q s h hq hn h5
    have hz := h.2.1
    rw [f_X7_next_0, h.1, h5]
    by_cases c1 : z ≤ q
    · rw [if_pos (nI_le c1 (by omega)), run_no (by omega)]
      exact ⟨s, rfl, h5, fun _ _ _ => rfl⟩
    · have hB := h.2.2 q (by omega)
      have gq : zib (nI q) 160 = true := zib_nI (by omega) (by decide)
      have e32 : (nI (B q) = 32) = (B q = 32) := nI_lit 32 (by omega) (by omega)
      have e10 : (nI (B q) = 10) = (B q = 10) := nI_lit 10 (by omega) (by omega)
      rw [if_neg (nI_ge (by omega) (by omega)), gd_t gq, zix_nI (by omega), hB.1]
      have go : isBl (B q) = true → ∃ S, f_X7_next_0 c n (zUp s 47 23 (nI (q + 1))) = c S ∧ S 47 23 = nI (run isBl B z q) ∧ (∀ a k, ¬ (a = 47 ∧ k = 23) → S a k = s a k) := by
        intro c2
        rw [run_go (by omega) c2]
        obtain ⟨S, e, f1, f2⟩ := ih (q + 1) (zUp s 47 23 (nI (q + 1))) (h.of (zUp_off (by omega)) (fun i _ => zUp_off (by omega))) (by omega) (by omega) (zUp_hit _ _ _ _)
        exact ⟨S, e, f1, fun a k hk => by rw [f2 a k hk, zUp_off (by omega)]⟩
      by_cases c2 : B q = 32
      · rw [if_pos (e32.mpr c2), nI_1, nm_eq]
        exact go (by unfold isBl; rw [c2]; rfl)
      · rw [if_neg (fun r => c2 (e32.mp r)), gd_t gq]
        by_cases c3 : B q = 10
        · rw [if_pos (e10.mpr c3), nI_1, nm_eq]
          exact go (by unfold isBl; rw [c3]; rfl)
        · rw [if_neg (fun r => c3 (e10.mp r)), run_no (by unfold isBl; simp [c2, c3])]
          exact ⟨s, rfl, h5, fun _ _ _ => rfl⟩
theorem m_word {B : Nat → Nat} {z : Nat} {c : zMem → Option (Unit × zMem)} : ∀ (n q : Nat) (s : zMem), tpM B z s → q ≤ z → z - q < n → s 47 23 = nI q → ∃ S, f_X7_next_103 c n s = c S ∧ S 47 23 = nI (run isLe B z q) ∧ (∀ a k, ¬ (a = 47 ∧ k = 23) → S a k = s a k) := by
  intro n
  induction n with
  | zero => intro q s _ _ h; omega
  | succ n ih =>
    intro q s h hq hn h5
    have hz := h.2.1
    rw [f_X7_next_103, h.1, h5]
    by_cases c1 : z ≤ q
    · rw [if_pos (nI_le c1 (by omega)), run_no (by omega)]
      exact ⟨s, rfl, h5, fun _ _ _ => rfl⟩
    · have hB := h.2.2 q (by omega)
      have hm := m_in 97 122 hB.2 (by omega) (by omega) s
      rw [if_neg (nI_ge (by omega) (by omega)), gd_t (zib_nI (by omega) (by decide)), zix_nI (by omega), hB.1, show (97 : Int32) = nI 97 from rfl, show (122 : Int32) = nI 122 from rfl, hm, bd_s, zif01]
      by_cases c2 : isLe (B q) = true
      · rw [if_pos (show (decide (97 ≤ B q) && decide (B q ≤ 122)) = true from c2), h5, nI_1, nm_eq, run_go (by omega) c2]
        obtain ⟨S, e, f1, f2⟩ := ih (q + 1) (zUp s 47 23 (nI (q + 1))) (h.of (zUp_off (by omega)) (fun i _ => zUp_off (by omega))) (by omega) (by omega) (zUp_hit _ _ _ _)
        exact ⟨S, e, f1, fun a k hk => by rw [f2 a k hk, zUp_off (by omega)]⟩
      · rw [if_neg (show ¬ (decide (97 ≤ B q) && decide (B q ≤ 122)) = true from c2), run_no (fun r => c2 r.2)]
        exact ⟨s, rfl, h5, fun _ _ _ => rfl⟩
theorem m_num {B : Nat → Nat} {z : Nat} {c : Int32 → zMem → Option (Unit × zMem)} : ∀ (n q m v : Nat) (s : zMem), tpM B z s → q ≤ z → z - q < n → m ≤ q → s 47 23 = nI q → (m + (run isDi B z q - q) ≤ 4 → s 47 26 = nI v) → ∃ S, f_X7_next_230 c n (nI m) s = c (nI (m + (run isDi B z q - q))) S ∧ S 47 23 = nI (run isDi B z q) ∧ (m + (run isDi B z q - q) ≤ 4 → S 47 26 = nI (numV B z v q)) ∧ (∀ a k, ¬ (a = 47 ∧ (k = 23 ∨ k = 26)) → S a k = s a k) := by
  intro n
  induction n with
  | zero => intro q m v s _ _ h; omega
  | succ n ih =>
    intro q m v s h hq hn hm h5 h6
    have hz := h.2.1
    rw [f_X7_next_230, h.1, h5]
    by_cases c1 : z ≤ q
    · rw [run_no (by omega)] at h6 ⊢
      rw [if_pos (nI_le c1 (by omega)), num_no (by omega), Nat.sub_self, Nat.add_zero] at *
      exact ⟨s, rfl, h5, fun r => h6 (by omega), fun _ _ _ => rfl⟩
    · have hB := h.2.2 q (by omega)
      have hmi := m_in 48 57 hB.2 (by omega) (by omega) s
      have gq : zib (nI q) 160 = true := zib_nI (by omega) (by decide)
      rw [if_neg (nI_ge (by omega) (by omega)), gd_t gq, zix_nI (by omega), hB.1, show (48 : Int32) = nI 48 from rfl, show (57 : Int32) = nI 57 from rfl, hmi, bd_s, zif01]
      by_cases c2 : isDi (B q) = true
      · have hr := run_b isDi B z (q + 1)
        rw [run_go (by omega) c2] at h6 ⊢
        rw [num_go (by omega) c2]
        have hd : 48 ≤ B q := by unfold isDi at c2; simp at c2; omega
        rw [if_pos (show (decide (48 ≤ B q) && decide (B q ≤ 57)) = true from c2), show run isDi B z (q + 1) - q = (run isDi B z (q + 1) - (q + 1)) + 1 by omega]
        rw [show run isDi B z (q + 1) - q = (run isDi B z (q + 1) - (q + 1)) + 1 by omega] at h6
        by_cases c3 : 4 ≤ m
        · rw [if_pos (show (4 : Int32) ≤ nI m from nI_le (a := 4) c3 (by omega)), nm_eq, nm_eq, nI_1, zUp_off (by omega), h5, nI_1, nm_eq]
          obtain ⟨S, e, f1, f3, f2⟩ := ih (q + 1) (m + 1) (v * 10 + (B q - 48)) (zUp (zUp s 47 26 0) 47 23 (nI (q + 1))) (h.of (by rw [zUp_off (by omega), zUp_off (by omega)]) (fun i _ => by rw [zUp_off (by omega), zUp_off (by omega)])) (by omega) (by omega) (by omega) (zUp_hit _ _ _ _) (fun r => by omega)
          rw [show m + 1 + (run isDi B z (q + 1) - (q + 1)) = m + (run isDi B z (q + 1) - (q + 1) + 1) by omega] at e f3
          exact ⟨S, e, f1, f3, fun a k hk => by rw [f2 a k hk, zUp_off (by omega), zUp_off (by omega)]⟩
        · rw [if_neg (show ¬ (4 : Int32) ≤ nI m from nI_ge (b := 4) (by omega) (by omega)), h5, gd_t gq, zix_nI (by omega), hB.1, nm_eq, nm_eq, nI_1, zUp_off (by omega), h5, nI_1, nm_eq]
          obtain ⟨S, e, f1, f3, f2⟩ := ih (q + 1) (m + 1) (v * 10 + (B q - 48)) (zUp (zUp s 47 26 (10 * s 47 26 + nI (B q) - nI 48)) 47 23 (nI (q + 1))) (h.of (by rw [zUp_off (by omega), zUp_off (by omega)]) (fun i _ => by rw [zUp_off (by omega), zUp_off (by omega)])) (by omega) (by omega) (by omega) (zUp_hit _ _ _ _) (fun r => by
            rw [zUp_off (by omega), zUp_hit, h6 (by omega), show (10 : Int32) = nI 10 from rfl, nI_mul, nI_add, nI_sub (by omega)]
            congr 1
            omega)
          rw [show m + 1 + (run isDi B z (q + 1) - (q + 1)) = m + (run isDi B z (q + 1) - (q + 1) + 1) by omega] at e f3
          exact ⟨S, e, f1, f3, fun a k hk => by rw [f2 a k hk, zUp_off (by omega), zUp_off (by omega)]⟩
      · rw [run_no (fun r => c2 r.2)] at h6 ⊢
        rw [if_neg (show ¬ (decide (48 ≤ B q) && decide (B q ≤ 57)) = true from c2), num_no (fun r => c2 r.2), Nat.sub_self, Nat.add_zero] at *
        exact ⟨s, rfl, h5, fun r => h6 (by omega), fun _ _ _ => rfl⟩
theorem m_tok {B : Nat → Nat} {z q : Nat} {s : zMem} (h : tpM B z s) (hw : wdM s) (hq : q ≤ z) (h5 : s 47 23 = nI q) : ∃ S, f_X7_next s = some ((), S) ∧ S 47 23 = nI (tkE B z q) ∧ S 47 24 = nI (tkB B z q) ∧ S 47 25 = tkM (tkK B z q) ∧ (tkK B z q = 2 ∨ tkK B z q = 3 → S 47 26 = nI (tkV B z q)) ∧ (4 ≤ tkK B z q ∧ tkK B z q ≤ 6 → S 47 26 = nI (tkK B z q - 4)) := by
  have hz := h.2.1
  unfold f_X7_next
  obtain ⟨S1, e1, f1, f2⟩ := m_skip (c := fun s4 => f_X7_next_52 s4) zN q s h hq (by unfold zN; omega) h5
  have hb := run_b isBl B z q
  rw [e1]
  unfold f_X7_next_52
  have hBB : run isBl B z q = tkB B z q := rfl
  rw [hBB] at f1 hb
  generalize hbb : tkB B z q = b at f1 hb
  rw [nm_eq, nm_eq, nm_eq, f1]
  have off : ∀ a k, ¬ (a = 47 ∧ (k = 23 ∨ k = 24 ∨ k = 25 ∨ k = 26)) → zUp (zUp (zUp S1 47 24 (nI b)) 47 25 0) 47 26 0 a k = s a k := fun a k hk => by rw [zUp_off (by omega), zUp_off (by omega), zUp_off (by omega), f2 _ _ (by omega)]
  have g23 : zUp (zUp (zUp S1 47 24 (nI b)) 47 25 0) 47 26 0 47 23 = nI b := by rw [zUp_off (by omega), zUp_off (by omega), zUp_off (by omega), f1]
  have g24 : zUp (zUp (zUp S1 47 24 (nI b)) 47 25 0) 47 26 0 47 24 = nI b := by rw [zUp_off (by omega), zUp_off (by omega), zUp_hit]
  have g25 : zUp (zUp (zUp S1 47 24 (nI b)) 47 25 0) 47 26 0 47 25 = 0 := by rw [zUp_off (by omega), zUp_hit]
  have g26 : zUp (zUp (zUp S1 47 24 (nI b)) 47 25 0) 47 26 0 47 26 = 0 := zUp_hit _ _ _ _
  generalize zUp (zUp (zUp S1 47 24 (nI b)) 47 25 0) 47 26 0 = S2 at off g23 g24 g25 g26 ⊢
  have t2 : tpM B z S2 := h.of (off _ _ (by omega)) (fun i _ => off _ _ (by omega))
  have w2 : wdM S2 := hw.of (fun k => off _ _ (by omega))
  have hbz := hb.2 hq
  rw [g23, t2.1]
  by_cases c1 : z ≤ b
  · have hK : tkK B z q = 0 := by unfold tkK; rw [hbb, if_pos c1]
    have he : tkE B z q = b := by unfold tkE; rw [hbb, if_pos c1]
    rw [if_pos (by rw [show b = z by omega])]
    refine ⟨_, rfl, by rw [g23, he], g24, by rw [g25, hK]; rfl, ?_, ?_⟩ <;> rw [hK] <;> intro r <;> omega
  · have hB := t2.2.2 b (by omega)
    rw [if_neg (fun r => c1 (by have := (nI_eq (by omega) (by omega)).mp r; omega)), gd_t (zib_nI (by omega) (by decide)), zix_nI (by omega), hB.1, nm_eq, show (97 : Int32) = nI 97 from rfl, show (122 : Int32) = nI 122 from rfl, show (48 : Int32) = nI 48 from rfl, show (57 : Int32) = nI 57 from rfl, m_in 97 122 hB.2 (by omega) (by omega), bd_s, zif01, m_in 48 57 hB.2 (by omega) (by omega), bd_s, zif01]
    by_cases c2 : isLe (B b) = true
    · rw [if_pos (show (decide (97 ≤ B b) && decide (B b ≤ 122)) = true from c2)]
      have hwb := run_b isLe B z b
      obtain ⟨S3, e3, u1, u2⟩ := m_word (c := fun s41 => f_X7_next_146 s41) zN b S2 t2 (by omega) (by unfold zN; omega) g23
      have he : tkE B z q = run isLe B z b := by unfold tkE; rw [hbb, if_neg c1, if_pos c2]
      have hK : tkK B z q = kdW (wix B b (tkE B z q)) := by unfold tkK; rw [hbb, if_neg c1, if_pos c2]
      have hV : tkV B z q = wix B b (tkE B z q) - 3 := by unfold tkV; rw [hbb, if_pos c2]
      have hlet : ∀ i, b ≤ i → i < run isLe B z b → B i ≠ 32 := run_ne z b
      rw [← he] at u1 hwb hlet
      generalize tkE B z q = e at u1 hwb he hK hV hlet ⊢
      rw [e3]
      unfold f_X7_next_146
      have t3 : tpM B z S3 := t2.of (u2 _ _ (by omega)) (fun i _ => u2 _ _ (by omega))
      have w3 : wdM S3 := w2.of (fun k => u2 _ _ (by omega))
      have v24 : S3 47 24 = nI b := by rw [u2 _ _ (by omega), g24]
      have hwf : f_X7_wordFrom (nI b) (nI e) S3 = some (nI (wix B b e), S3) := m_wf t3 w3 hwb.1 (hwb.2 (by omega)) hlet zN 0 (by omega) (by unfold zN; omega)
      have hw12 : wix B b e ≤ 12 := by
        rcases wixF_s B b e 12 0 rfl with ⟨h1, _⟩ | ⟨_, h2, _⟩
        · exact Nat.le_of_eq h1
        · exact Nat.le_of_lt h2
      rw [v24, u1, hwf, bd_s]
      generalize wix B b e = w at hK hV hw12 ⊢
      rw [hK, hV]
      have w23 : ∀ x y : Int32, zUp (zUp S3 47 25 x) 47 26 y 47 23 = nI e := fun x y => by rw [zUp_off (by omega), zUp_off (by omega), u1]
      have w24 : ∀ x y : Int32, zUp (zUp S3 47 25 x) 47 26 y 47 24 = nI b := fun x y => by rw [zUp_off (by omega), zUp_off (by omega), v24]
      have w25 : ∀ x y : Int32, zUp (zUp S3 47 25 x) 47 26 y 47 25 = x := fun x y => by rw [zUp_off (by omega), zUp_hit]
      rcases (by omega : w = 0 ∨ w = 1 ∨ w = 2 ∨ w = 3 ∨ w = 4 ∨ w = 5 ∨ w = 6 ∨ w = 7 ∨ w = 8 ∨ w = 9 ∨ w = 10 ∨ w = 11 ∨ w = 12) with rfl | rfl | rfl | rfl | rfl | rfl | rfl | rfl | rfl | rfl | rfl | rfl | rfl
      · exact ⟨_, rfl, w23 _ _, w24 _ _, w25 _ _, (fun r => absurd r (by decide)), fun _ => zUp_hit _ _ _ _⟩
      · exact ⟨_, rfl, w23 _ _, w24 _ _, w25 _ _, (fun r => absurd r (by decide)), fun _ => zUp_hit _ _ _ _⟩
      · exact ⟨_, rfl, w23 _ _, w24 _ _, w25 _ _, (fun r => absurd r (by decide)), fun _ => zUp_hit _ _ _ _⟩
      · exact ⟨_, rfl, w23 _ _, w24 _ _, w25 _ _, fun _ => zUp_hit _ _ _ _, (fun r => absurd r (by decide))⟩
      · exact ⟨_, rfl, w23 _ _, w24 _ _, w25 _ _, fun _ => zUp_hit _ _ _ _, (fun r => absurd r (by decide))⟩
      · exact ⟨_, rfl, w23 _ _, w24 _ _, w25 _ _, fun _ => zUp_hit _ _ _ _, (fun r => absurd r (by decide))⟩
      · exact ⟨_, rfl, w23 _ _, w24 _ _, w25 _ _, fun _ => zUp_hit _ _ _ _, (fun r => absurd r (by decide))⟩
      · exact ⟨_, rfl, w23 _ _, w24 _ _, w25 _ _, fun _ => zUp_hit _ _ _ _, (fun r => absurd r (by decide))⟩
      · exact ⟨_, rfl, w23 _ _, w24 _ _, w25 _ _, fun _ => zUp_hit _ _ _ _, (fun r => absurd r (by decide))⟩
      · exact ⟨_, rfl, w23 _ _, w24 _ _, w25 _ _, (fun r => absurd r (by decide)), (fun r => absurd r (by decide))⟩
      · exact ⟨_, rfl, w23 _ _, w24 _ _, w25 _ _, (fun r => absurd r (by decide)), (fun r => absurd r (by decide))⟩
      · exact ⟨_, rfl, w23 _ _, w24 _ _, w25 _ _, (fun r => absurd r (by decide)), (fun r => absurd r (by decide))⟩
      · exact ⟨_, rfl, w23 _ _, w24 _ _, w25 _ _, (fun r => absurd r (by decide)), (fun r => absurd r (by decide))⟩
    · rw [if_neg (show ¬ (decide (97 ≤ B b) && decide (B b ≤ 122)) = true from c2)]
      by_cases c3 : isDi (B b) = true
      · rw [if_pos (show (decide (48 ≤ B b) && decide (B b ≤ 57)) = true from c3)]
        have hrb := run_b isDi B z b
        obtain ⟨S3, e3, u1, u3, u2⟩ := m_num (c := fun x33 s34 => if x33 ≤ 4 then nm (zUp s34 47 25 1) fun s35 => some ((), s35) else nm (zUp s34 47 25 (-1)) fun s36 => some ((), s36)) zN b 0 0 S2 t2 (by omega) (by unfold zN; omega) (by omega) g23 (fun _ => g26)
        have he : tkE B z q = run isDi B z b := by unfold tkE; rw [hbb, if_neg c1, if_neg c2, if_pos c3]
        have hV : tkV B z q = numV B z 0 b := by unfold tkV; rw [hbb, if_neg c2]
        have hK : tkK B z q = if tkE B z q - b ≤ 4 then 2 else 1 := by unfold tkK; rw [hbb, if_neg c1, if_neg c2, if_pos c3]
        rw [← he, zn0, Nat.zero_add] at e3
        rw [← he] at u1 u3 hrb
        have hez := hrb.2 (by omega)
        rw [e3]
        have e4 : (nI (tkE B z q - b) ≤ 4) = (tkE B z q - b ≤ 4) := propext (nI_leI (b := 4) (by omega) (by omega))
        by_cases c4 : tkE B z q - b ≤ 4
        · rw [if_pos (e4.mpr c4), nm_eq]
          refine ⟨_, rfl, ?_, ?_, ?_, fun _ => ?_, fun r => ?_⟩
          · rw [zUp_off (by omega), u1]
          · rw [zUp_off (by omega), u2 _ _ (by omega), g24]
          · rw [zUp_hit, hK, if_pos c4]; rfl
          · rw [zUp_off (by omega), u3 (by omega), hV]
          · rw [hK, if_pos c4] at r; omega
        · rw [if_neg (fun r => c4 (e4.mp r)), nm_eq]
          refine ⟨_, rfl, ?_, ?_, ?_, fun r => ?_, fun r => ?_⟩
          · rw [zUp_off (by omega), u1]
          · rw [zUp_off (by omega), u2 _ _ (by omega), g24]
          · rw [zUp_hit, hK, if_neg c4]; rfl
          · rw [hK, if_neg c4] at r; omega
          · rw [hK, if_neg c4] at r; omega
      · rw [if_neg (show ¬ (decide (48 ≤ B b) && decide (B b ≤ 57)) = true from c3)]
        have he : tkE B z q = b + 1 := by unfold tkE; rw [hbb, if_neg c1, if_neg c2, if_neg c3]
        have hK : tkK B z q = if isSg (B b) = true then B b else 1 := by unfold tkK; rw [hbb, if_neg c1, if_neg c2, if_neg c3]
        have yes : isSg (B b) = true → 40 ≤ B b → ∃ S, f_X7_next_374 (nI (B b)) S2 = some ((), S) ∧ S 47 23 = nI (tkE B z q) ∧ S 47 24 = nI b ∧ S 47 25 = tkM (tkK B z q) ∧ (tkK B z q = 2 ∨ tkK B z q = 3 → S 47 26 = nI (tkV B z q)) ∧ (4 ≤ tkK B z q ∧ tkK B z q ≤ 6 → S 47 26 = nI (tkK B z q - 4)) := by
          intro c4 c5
          rw [if_pos c4] at hK
          unfold f_X7_next_374 f_X7_next_379
          rw [if_neg (by decide), nm_eq, nm_eq]
          refine ⟨_, rfl, ?_, ?_, ?_, fun r => ?_, fun r => ?_⟩
          · rw [zUp_hit, zUp_off (by omega), g23, nI_1, he]
          · rw [zUp_off (by omega), zUp_off (by omega), g24]
          · rw [zUp_off (by omega), zUp_hit, hK]
            unfold tkM
            rw [if_neg (by omega), if_neg (by omega), if_neg (by omega), if_neg (by omega), if_neg (by omega), if_neg (by omega)]
          · rw [hK] at r; omega
          · rw [hK] at r; omega
        have eq : ∀ k, k < 256 → (nI (B b) = nI k) = (B b = k) := fun k hk => nI_lit k (by omega) (by omega)
        have e40 : (nI (B b) = 40) = (B b = 40) := eq 40 (by omega)
        have e41 : (nI (B b) = 41) = (B b = 41) := eq 41 (by omega)
        have e59 : (nI (B b) = 59) = (B b = 59) := eq 59 (by omega)
        have e43 : (nI (B b) = 43) = (B b = 43) := eq 43 (by omega)
        have e45 : (nI (B b) = 45) = (B b = 45) := eq 45 (by omega)
        have e42 : (nI (B b) = 42) = (B b = 42) := eq 42 (by omega)
        have e60 : (nI (B b) = 60) = (B b = 60) := eq 60 (by omega)
        have e61 : (nI (B b) = 61) = (B b = 61) := eq 61 (by omega)
        by_cases r1 : B b = 40
        · rw [if_pos (e40.mpr r1)]; exact yes (by rw [r1]; rfl) (by omega)
        rw [if_neg (fun r => r1 (e40.mp r))]
        by_cases r2 : B b = 41
        · rw [if_pos (e41.mpr r2)]; exact yes (by rw [r2]; rfl) (by omega)
        rw [if_neg (fun r => r2 (e41.mp r))]
        by_cases r3 : B b = 59
        · rw [if_pos (e59.mpr r3)]; exact yes (by rw [r3]; rfl) (by omega)
        rw [if_neg (fun r => r3 (e59.mp r))]
        by_cases r4 : B b = 43
        · rw [if_pos (e43.mpr r4)]; exact yes (by rw [r4]; rfl) (by omega)
        rw [if_neg (fun r => r4 (e43.mp r))]
        by_cases r5 : B b = 45
        · rw [if_pos (e45.mpr r5)]; exact yes (by rw [r5]; rfl) (by omega)
        rw [if_neg (fun r => r5 (e45.mp r))]
        by_cases r6 : B b = 42
        · rw [if_pos (e42.mpr r6)]; exact yes (by rw [r6]; rfl) (by omega)
        rw [if_neg (fun r => r6 (e42.mp r))]
        by_cases r7 : B b = 60
        · rw [if_pos (e60.mpr r7)]; exact yes (by rw [r7]; rfl) (by omega)
        rw [if_neg (fun r => r7 (e60.mp r))]
        by_cases r8 : B b = 61
        · rw [if_pos (e61.mpr r8)]; exact yes (by rw [r8]; rfl) (by omega)
        rw [if_neg (fun r => r8 (e61.mp r))]
        rw [if_neg (by unfold isSg; simp [r1, r2, r3, r4, r5, r6, r7, r8])] at hK
        unfold f_X7_next_379
        rw [if_pos rfl, nm_eq, nm_eq]
        refine ⟨_, rfl, ?_, ?_, ?_, fun r => ?_, fun r => ?_⟩
        · rw [zUp_hit, zUp_off (by omega), g23, nI_1, he]
        · rw [zUp_off (by omega), zUp_off (by omega), g24]
        · rw [zUp_off (by omega), zUp_hit, hK]; rfl
        · rw [hK] at r; omega
        · rw [hK] at r; omega

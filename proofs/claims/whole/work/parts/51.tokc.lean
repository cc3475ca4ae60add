-- the class reads a token
def tpC (B : Nat → Nat) (z : Nat) (s : zMem) : Prop := s 5 1 = nI z ∧ z ≤ 160 ∧ ∀ i, i < z → s 6 i = nI (B i) ∧ B i < 256
theorem c_byteAt {B : Nat → Nat} {z i : Nat} {s : zMem} (h : tpC B z s) (hi : i < z) : f_X2_byteAt (nI i) s = some (nI (B i), s) := by
  have := h.2.1
  unfold f_X2_byteAt
  rw [if_neg (fun q => absurd q (Int32.not_lt.mpr (nI_pos' (by omega)))), if_neg (n160 i (by omega)), gd_t (zib_nI (by omega) (by decide)), zix_nI (by omega), (h.2.2 i hi).1]
theorem c_byteAt' {z i : Nat} {s : zMem} (hz : z ≤ 160) (hi : i ≤ z) : ∃ x, f_X2_byteAt (nI i) s = some (x, s) := by
  unfold f_X2_byteAt
  rw [if_neg (fun q => absurd q (Int32.not_lt.mpr (nI_pos' (by omega))))]
  by_cases q : i = 160
  · subst q
    exact ⟨-1, if_pos (by decide)⟩
  · rw [if_neg (n160 i (by omega)), gd_t (zib_nI (by omega) (by decide))]
    exact ⟨_, rfl⟩
theorem nI_lit {a : Nat} (b : Nat) (ha : a < 2 ^ 31) (hb : b < 2 ^ 31) : (nI a = nI b) = (a = b) := propext (nI_eq ha hb)
theorem c_isBlank {b : Nat} (h : b < 256) (s : zMem) : f_X2_isBlank (nI b) s = some (if isBl b = true then 1 else 0, s) := by
  unfold f_X2_isBlank isBl
  have e1 : (nI b = 32) = (b = 32) := nI_lit 32 (by omega) (by omega)
  have e2 : (nI b = 10) = (b = 10) := nI_lit 10 (by omega) (by omega)
  simp only [e1, e2, Bool.or_eq_true, beq_iff_eq]
  by_cases q : b = 32
  · simp [q]
  · by_cases q2 : b = 10 <;> simp [q, q2]
theorem ft_nI {b lo hi : Nat} (h : b < 256) (h1 : lo < 256) (h2 : hi < 256) : (nI lo ≤ nI b ∧ nI b ≤ nI hi) ↔ (lo ≤ b ∧ b ≤ hi) := by
  rw [nI_leI (by omega) (by omega), nI_leI (by omega) (by omega)]
theorem c_isLetter {b : Nat} (h : b < 256) (s : zMem) : f_X2_isLetter (nI b) s = some (if isLe b = true then 1 else 0, s) := by
  unfold f_X2_isLetter isLe
  rw [k_isFromTo, bd_s, gd_t z01_if]
  have this : ((97 : Int32) ≤ nI b ∧ nI b ≤ 122) ↔ (97 ≤ b ∧ b ≤ 122) := ft_nI (lo := 97) (hi := 122) h (by omega) (by omega)
  by_cases q : 97 ≤ b ∧ b ≤ 122
  · rw [if_pos (this.mpr q), if_pos (by simp [q])]
  · rw [if_neg (fun r => q (this.mp r)), if_neg (by simp; omega)]
theorem c_isDigit {b : Nat} (h : b < 256) (s : zMem) : f_X2_isDigit (nI b) s = some (if isDi b = true then 1 else 0, s) := by
  unfold f_X2_isDigit isDi
  rw [k_isFromTo, bd_s, gd_t z01_if]
  have this : ((48 : Int32) ≤ nI b ∧ nI b ≤ 57) ↔ (48 ≤ b ∧ b ≤ 57) := ft_nI (lo := 48) (hi := 57) h (by omega) (by omega)
  by_cases q : 48 ≤ b ∧ b ≤ 57
  · rw [if_pos (this.mpr q), if_pos (by simp [q])]
  · rw [if_neg (fun r => q (this.mp r)), if_neg (by simp; omega)]
theorem c_isSign {b : Nat} (h : b < 256) (s : zMem) : f_X2_isSign (nI b) s = some (if isSg b = true then 1 else 0, s) := by
  have e : ∀ k, k < 256 → (nI b = nI k) = (b = k) := fun k hk => nI_lit k (by omega) (by omega)
  have hl : ∀ b, b < 256 → ∀ (s : zMem), True := fun _ _ _ => trivial
  unfold f_X2_isSign isSg
  have e40 := e 40 (by omega)
  have e41 := e 41 (by omega)
  have e42 := e 42 (by omega)
  have e43 := e 43 (by omega)
  have e44 := e 44 (by omega)
  have e45 := e 45 (by omega)
  have e46 := e 46 (by omega)
  have e47 := e 47 (by omega)
  have e48 := e 48 (by omega)
  have e49 := e 49 (by omega)
  have e50 := e 50 (by omega)
  have e51 := e 51 (by omega)
  have e52 := e 52 (by omega)
  have e53 := e 53 (by omega)
  have e54 := e 54 (by omega)
  have e55 := e 55 (by omega)
  have e56 := e 56 (by omega)
  have e57 := e 57 (by omega)
  have e58 := e 58 (by omega)
  have e59 := e 59 (by omega)
  have e60 := e 60 (by omega)
  have e61 := e 61 (by omega)
  rw [show (40 : Int32) = nI 40 from rfl, show (41 : Int32) = nI 41 from rfl, show (42 : Int32) = nI 42 from rfl, show (43 : Int32) = nI 43 from rfl, show (44 : Int32) = nI 44 from rfl, show (45 : Int32) = nI 45 from rfl, show (46 : Int32) = nI 46 from rfl, show (47 : Int32) = nI 47 from rfl, show (48 : Int32) = nI 48 from rfl, show (49 : Int32) = nI 49 from rfl, show (50 : Int32) = nI 50 from rfl, show (51 : Int32) = nI 51 from rfl, show (52 : Int32) = nI 52 from rfl, show (53 : Int32) = nI 53 from rfl, show (54 : Int32) = nI 54 from rfl, show (55 : Int32) = nI 55 from rfl, show (56 : Int32) = nI 56 from rfl, show (57 : Int32) = nI 57 from rfl, show (58 : Int32) = nI 58 from rfl, show (59 : Int32) = nI 59 from rfl, show (60 : Int32) = nI 60 from rfl, show (61 : Int32) = nI 61 from rfl]
  simp only [e40, e41, e42, e43, e44, e45, e46, e47, e48, e49, e50, e51, e52, e53, e54, e55, e56, e57, e58, e59, e60, e61]
  by_cases q : 40 ≤ b ∧ b ≤ 61
  · have : ∀ b, 40 ≤ b → b ≤ 61 → b = 40 ∨ b = 41 ∨ b = 42 ∨ b = 43 ∨ b = 44 ∨ b = 45 ∨ b = 46 ∨ b = 47 ∨ b = 48 ∨ b = 49 ∨ b = 50 ∨ b = 51 ∨ b = 52 ∨ b = 53 ∨ b = 54 ∨ b = 55 ∨ b = 56 ∨ b = 57 ∨ b = 58 ∨ b = 59 ∨ b = 60 ∨ b = 61 := by intro b; omega
    rcases this b q.1 q.2 with rfl | rfl | rfl | rfl | rfl | rfl | rfl | rfl | rfl | rfl | rfl | rfl | rfl | rfl | rfl | rfl | rfl | rfl | rfl | rfl | rfl | rfl <;> rfl
  · have n : ∀ k, 40 ≤ k → k ≤ 61 → ¬ b = k := fun k _ _ _ => by omega
    rw [if_neg (n 40 (by omega) (by omega)), if_neg (n 41 (by omega) (by omega)), if_neg (n 42 (by omega) (by omega)), if_neg (n 43 (by omega) (by omega)), if_neg (n 44 (by omega) (by omega)), if_neg (n 45 (by omega) (by omega)), if_neg (n 46 (by omega) (by omega)), if_neg (n 47 (by omega) (by omega)), if_neg (n 48 (by omega) (by omega)), if_neg (n 49 (by omega) (by omega)), if_neg (n 50 (by omega) (by omega)), if_neg (n 51 (by omega) (by omega)), if_neg (n 52 (by omega) (by omega)), if_neg (n 53 (by omega) (by omega)), if_neg (n 54 (by omega) (by omega)), if_neg (n 55 (by omega) (by omega)), if_neg (n 56 (by omega) (by omega)), if_neg (n 57 (by omega) (by omega)), if_neg (n 58 (by omega) (by omega)), if_neg (n 59 (by omega) (by omega)), if_neg (n 60 (by omega) (by omega)), if_neg (n 61 (by omega) (by omega))]
    rw [if_neg]
    simp
    omega
theorem tpC.of {B : Nat → Nat} {z : Nat} {s S : zMem} (h : tpC B z s) (h1 : S 5 1 = s 5 1) (h2 : ∀ i, i < z → S 6 i = s 6 i) : tpC B z S := ⟨by rw [h1]; exact h.1, h.2.1, fun i hi => by rw [h2 i hi]; exact h.2.2 i hi⟩
theorem c_skip {B : Nat → Nat} {z : Nat} {c : zMem → Option (Unit × zMem)} : ∀ (n q : Nat) (s : zMem), tpC B z s → q ≤ z → z - q < n → s 5 5 = nI q → ∃ S, f_X2_readToken_5 c n (nI q) s = c S ∧ S 5 5 = nI (run isBl B z q) ∧ (∀ a k, ¬ (a = 5 ∧ k = 5) → S a k = s a k) := by
  intro n
  induction n with
  | zero => intro q s _ _ h; omega
  | succ n ih =>
    intro q s h hq hn h5
    have hz := h.2.1
    rw [f_X2_readToken_5, h.1]
    by_cases c1 : z ≤ q
    · rw [if_pos (nI_le c1 (by omega)), run_no (by omega)]
      exact ⟨s, rfl, h5, fun _ _ _ => rfl⟩
    · rw [if_neg (nI_ge (by omega) (by omega)), c_byteAt h (by omega), bd_s, c_isBlank (h.2.2 q (by omega)).2, bd_s, zif01]
      by_cases c2 : isBl (B q) = true
      · rw [if_pos c2, nm_eq, nm_eq, nI_1, run_go (by omega) c2]
        obtain ⟨S, e, f1, f2⟩ := ih (q + 1) (zUp s 5 5 (nI (q + 1))) (h.of (zUp_off (by omega)) (fun i _ => zUp_off (by omega))) (by omega) (by omega) (zUp_hit _ _ _ _)
        exact ⟨S, e, f1, fun a k hk => by rw [f2 a k hk, zUp_off (by omega)]⟩
      · rw [if_neg c2, run_no (fun r => c2 r.2)]
        exact ⟨s, rfl, h5, fun _ _ _ => rfl⟩
theorem c_word {B : Nat → Nat} {z : Nat} : ∀ (n q : Nat) (s : zMem), tpC B z s → q ≤ z → z - q < n → f_X2_endOfWord_10 n (nI q) (nI q) s = some (nI (run isLe B z q), s) := by
  intro n
  induction n with
  | zero => intro q s _ _ h; omega
  | succ n ih =>
    intro q s h hq hn
    have hz := h.2.1
    rw [f_X2_endOfWord_10, h.1]
    by_cases c1 : z ≤ q
    · rw [if_pos (nI_le c1 (by omega)), run_no (by omega)]
    · rw [if_neg (nI_ge (by omega) (by omega)), c_byteAt h (by omega), bd_s, c_isLetter (h.2.2 q (by omega)).2, bd_s, zif01]
      by_cases c2 : isLe (B q) = true
      · rw [if_pos c2, nm_eq, nm_eq, nI_1, run_go (by omega) c2]
        exact ih (q + 1) s h (by omega) (by omega)
      · rw [if_neg c2, run_no (fun r => c2 r.2)]
theorem c_num {B : Nat → Nat} {z : Nat} {c : zMem → Option (Unit × zMem)} : ∀ (n q v : Nat) (s : zMem), tpC B z s → q ≤ z → z - q < n → s 5 5 = nI q → s 5 8 = nI v → ∃ S, f_X2_readNumber_10 c n (nI q) s = c S ∧ S 5 5 = nI (run isDi B z q) ∧ S 5 8 = nI (numV B z v q) ∧ (∀ a k, ¬ (a = 5 ∧ (k = 5 ∨ k = 8)) → S a k = s a k) := by
  intro n
  induction n with
  | zero => intro q v s _ _ h; omega
  | succ n ih =>
    intro q v s h hq hn h5 h8
    have hz := h.2.1
    rw [f_X2_readNumber_10, h.1]
    by_cases c1 : z ≤ q
    · rw [if_pos (nI_le c1 (by omega)), run_no (by omega), num_no (by omega)]
      exact ⟨s, rfl, h5, h8, fun _ _ _ => rfl⟩
    · rw [if_neg (nI_ge (by omega) (by omega)), c_byteAt h (by omega), bd_s, c_isDigit (h.2.2 q (by omega)).2, bd_s, zif01]
      by_cases c2 : isDi (B q) = true
      · have h' : tpC B z (zUp s 5 5 (nI (q + 1))) := h.of (zUp_off (by omega)) (fun i _ => zUp_off (by omega))
        have hd : 48 ≤ B q := by unfold isDi at c2; simp at c2; omega
        have ev : nI v * 10 + nI (B q) - 48 = nI (v * 10 + (B q - 48)) := by
          rw [show (10 : Int32) = nI 10 from rfl, nI_mul, nI_add, show (48 : Int32) = nI 48 from rfl, nI_sub (by omega), show v * 10 + B q - 48 = v * 10 + (B q - 48) by omega]
        rw [if_pos c2, nm_eq, nI_1, c_byteAt h' (by omega), bd_s, zUp_off (by omega), h8, ev, nm_eq, nm_eq, run_go (by omega) c2, num_go (by omega) c2]
        obtain ⟨S, e, f1, f3, f2⟩ := ih (q + 1) (v * 10 + (B q - 48)) (zUp (zUp s 5 5 (nI (q + 1))) 5 8 (nI (v * 10 + (B q - 48)))) (h'.of (zUp_off (by omega)) (fun i _ => zUp_off (by omega))) (by omega) (by omega) (by rw [zUp_off (by omega), zUp_hit]) (zUp_hit _ _ _ _)
        exact ⟨S, e, f1, f3, fun a k hk => by rw [f2 a k hk, zUp_off (by omega), zUp_off (by omega)]⟩
      · rw [if_neg c2, run_no (fun r => c2 r.2), num_no (fun r => c2 r.2)]
        exact ⟨s, rfl, h5, h8, fun _ _ _ => rfl⟩
-- words
theorem len_sh : ∀ m, m < 100 → (Int32.ofNat m) >>> (0 &&& 31) = nI m := by decide +kernel
theorem zch_nI : ∀ c, c < 256 → zch (nI c) = true := by decide +kernel
theorem c_len {i m : Nat} (h : zLen.getD i 0 = m) (hm : m < 100) (s : zMem) : f_J0_length_8abf5 i s = some (nI m, s) := by
  show some ((Int32.ofNat (zLen.getD i 0)) >>> (0 &&& 31), s) = _
  rw [h, len_sh m hm]
def chr (i j : Nat) : Int32 := ((((zByt.getD i []).getD j 0) &&& 255).toUInt32 % 65536).toInt32
theorem c_chr {i m j : Nat} (h : zLen.getD i 0 = m) (hm : m < 1000) (hj : j < m) (hc : zch (chr i j) = true) (s : zMem) : f_J0_charAt_5068e i (nI j) s = some (chr i j, s) := by
  unfold f_J0_charAt_5068e f_J0_isLatin1_aae02
  rw [bd_s, if_neg (by decide)]
  unfold f_J1_charAt_3b067 f_J0_checkIndex_df160 f_J3_checkIndex_8e157
  rw [h, if_neg (fun q => absurd q (Int32.not_lt.mpr (nI_pos' (by omega)))), if_pos (show nI j < Int32.ofNat m from nI_lt hj (by omega)), bd_s, bd_s, gd_t (zib_nI hj (by omega)), zix_nI (by omega)]
  have e : ((((zByt.getD i []).getD j 0) &&& 255).toUInt32 % 65536).toInt32 = chr i j := rfl
  rw [e, gd_t hc, bd_s, gd_t hc]
theorem c_isRdL {B : Nat → Nat} {z b i k : Nat} {s : zMem} (h : tpC B z s) (h6 : s 5 6 = nI b) (hl : zLen.getD i 0 = (wdN k).length) (hl2 : (wdN k).length < 100) (hc : ∀ j, j < (wdN k).length → chr i j = nI ((wdN k).getD j 0) ∧ (wdN k).getD j 0 < 256) (hz : b + (wdN k).length ≤ z) : ∀ (n j : Nat) (l : List Nat), (wdN k).drop j = l → j ≤ (wdN k).length → l.length < n → f_X2_isRead_20 i n (nI j) s = some (if mt B (b + j) l = true then 1 else 0, s) := by
  have hz2 := h.2.1
  intro n
  induction n with
  | zero => intro j l _ _ h; omega
  | succ n ih =>
    intro j l hd hj hn
    rw [f_X2_isRead_20, c_len hl hl2, bd_s]
    by_cases q : (wdN k).length ≤ j
    · have : l = [] := by rw [← hd]; exact List.drop_eq_nil_of_le q
      rw [if_pos (nI_le q (by omega)), this]
      rfl
    · have hlen : l.length = (wdN k).length - j := by rw [← hd]; simp
      cases l with
      | nil => simp at hlen; omega
      | cons c r =>
        have hcj := hc j (by omega)
        have hg : (wdN k).getD j 0 = c := by
          have : ((wdN k).drop j).getD 0 0 = c := by rw [hd]; rfl
          rw [List.getD_eq_getElem?_getD, List.getElem?_drop, Nat.add_zero, ← List.getD_eq_getElem?_getD] at this
          exact this
        have hr : (wdN k).drop (j + 1) = r := by
          have : ((wdN k).drop j).drop 1 = r := by rw [hd]; rfl
          rw [List.drop_drop] at this
          exact this
        rw [hg] at hcj
        rw [if_neg (nI_ge (by omega) (by omega)), h6, nI_add, c_byteAt h (by omega), bd_s, c_chr hl (by omega) (by omega) (by rw [hcj.1]; exact zch_nI c hcj.2), bd_s, hcj.1]
        simp only [List.length_cons] at hn hlen
        by_cases q2 : B (b + j) = c
        · rw [if_pos (by rw [q2]), nm_eq, nI_1, ih (j + 1) r hr (by omega) (by omega)]
          have : mt B (b + j) (c :: r) = mt B (b + (j + 1)) r := by
            rw [mt, decide_eq_true q2, Bool.true_and]
            rfl
          rw [this]
        · have : mt B (b + j) (c :: r) = false := by
            rw [mt, decide_eq_false q2, Bool.false_and]
          rw [if_neg (fun r => q2 ((nI_eq (by have := (h.2.2 (b + j) (by omega)).2; omega) (by omega)).mp r)), this]
          rfl
theorem c_isRd {B : Nat → Nat} {z b e i k : Nat} {s : zMem} (h : tpC B z s) (h5 : s 5 5 = nI e) (h6 : s 5 6 = nI b) (hbe : b ≤ e) (hez : e ≤ z) (hl : zLen.getD i 0 = (wdN k).length) (hl2 : (wdN k).length < 100) (hc : ∀ j, j < (wdN k).length → chr i j = nI ((wdN k).getD j 0) ∧ (wdN k).getD j 0 < 256) : f_X2_isRead i s = some (if isWd B b e k = true then 1 else 0, s) := by
  have hz2 := h.2.1
  unfold f_X2_isRead
  rw [c_len hl hl2, bd_s, h5, h6, nI_sub hbe]
  unfold isWd
  by_cases q : e - b = (wdN k).length
  · rw [if_pos (by rw [q]), decide_eq_true q, Bool.true_and]
    have := c_isRdL h h6 hl hl2 hc (by omega) zN 0 (wdN k) rfl (by omega) (by unfold zN; omega)
    rw [zn0] at this
    exact this
  · rw [if_neg (fun r => q ((nI_eq (by omega) (by omega)).mp r)), decide_eq_false q, Bool.false_and]
    rfl
theorem c_isRd1 {B : Nat → Nat} {z b e : Nat} {s : zMem} (h : tpC B z s) (h5 : s 5 5 = nI e) (h6 : s 5 6 = nI b) (hbe : b ≤ e) (hez : e ≤ z) : f_X2_isRead 1 s = some (if isWd B b e 0 = true then 1 else 0, s) := c_isRd h h5 h6 hbe hez rfl (by decide) (by decide +kernel)
theorem c_isRd2 {B : Nat → Nat} {z b e : Nat} {s : zMem} (h : tpC B z s) (h5 : s 5 5 = nI e) (h6 : s 5 6 = nI b) (hbe : b ≤ e) (hez : e ≤ z) : f_X2_isRead 2 s = some (if isWd B b e 1 = true then 1 else 0, s) := c_isRd h h5 h6 hbe hez rfl (by decide) (by decide +kernel)
theorem c_isRd3 {B : Nat → Nat} {z b e : Nat} {s : zMem} (h : tpC B z s) (h5 : s 5 5 = nI e) (h6 : s 5 6 = nI b) (hbe : b ≤ e) (hez : e ≤ z) : f_X2_isRead 3 s = some (if isWd B b e 2 = true then 1 else 0, s) := c_isRd h h5 h6 hbe hez rfl (by decide) (by decide +kernel)
theorem c_isRd4 {B : Nat → Nat} {z b e : Nat} {s : zMem} (h : tpC B z s) (h5 : s 5 5 = nI e) (h6 : s 5 6 = nI b) (hbe : b ≤ e) (hez : e ≤ z) : f_X2_isRead 4 s = some (if isWd B b e 9 = true then 1 else 0, s) := c_isRd h h5 h6 hbe hez rfl (by decide) (by decide +kernel)
theorem c_isRd5 {B : Nat → Nat} {z b e : Nat} {s : zMem} (h : tpC B z s) (h5 : s 5 5 = nI e) (h6 : s 5 6 = nI b) (hbe : b ≤ e) (hez : e ≤ z) : f_X2_isRead 5 s = some (if isWd B b e 10 = true then 1 else 0, s) := c_isRd h h5 h6 hbe hez rfl (by decide) (by decide +kernel)
theorem c_isRd6 {B : Nat → Nat} {z b e : Nat} {s : zMem} (h : tpC B z s) (h5 : s 5 5 = nI e) (h6 : s 5 6 = nI b) (hbe : b ≤ e) (hez : e ≤ z) : f_X2_isRead 6 s = some (if isWd B b e 11 = true then 1 else 0, s) := c_isRd h h5 h6 hbe hez rfl (by decide) (by decide +kernel)
theorem c_isRd7 {B : Nat → Nat} {z b e : Nat} {s : zMem} (h : tpC B z s) (h5 : s 5 5 = nI e) (h6 : s 5 6 = nI b) (hbe : b ≤ e) (hez : e ≤ z) : f_X2_isRead 7 s = some (if isWd B b e 3 = true then 1 else 0, s) := c_isRd h h5 h6 hbe hez rfl (by decide) (by decide +kernel)
theorem c_isRd8 {B : Nat → Nat} {z b e : Nat} {s : zMem} (h : tpC B z s) (h5 : s 5 5 = nI e) (h6 : s 5 6 = nI b) (hbe : b ≤ e) (hez : e ≤ z) : f_X2_isRead 8 s = some (if isWd B b e 4 = true then 1 else 0, s) := c_isRd h h5 h6 hbe hez rfl (by decide) (by decide +kernel)
theorem c_isRd9 {B : Nat → Nat} {z b e : Nat} {s : zMem} (h : tpC B z s) (h5 : s 5 5 = nI e) (h6 : s 5 6 = nI b) (hbe : b ≤ e) (hez : e ≤ z) : f_X2_isRead 9 s = some (if isWd B b e 5 = true then 1 else 0, s) := c_isRd h h5 h6 hbe hez rfl (by decide) (by decide +kernel)
theorem c_isRd10 {B : Nat → Nat} {z b e : Nat} {s : zMem} (h : tpC B z s) (h5 : s 5 5 = nI e) (h6 : s 5 6 = nI b) (hbe : b ≤ e) (hez : e ≤ z) : f_X2_isRead 10 s = some (if isWd B b e 6 = true then 1 else 0, s) := c_isRd h h5 h6 hbe hez rfl (by decide) (by decide +kernel)
theorem c_isRd11 {B : Nat → Nat} {z b e : Nat} {s : zMem} (h : tpC B z s) (h5 : s 5 5 = nI e) (h6 : s 5 6 = nI b) (hbe : b ≤ e) (hez : e ≤ z) : f_X2_isRead 11 s = some (if isWd B b e 7 = true then 1 else 0, s) := c_isRd h h5 h6 hbe hez rfl (by decide) (by decide +kernel)
theorem c_isRd12 {B : Nat → Nat} {z b e : Nat} {s : zMem} (h : tpC B z s) (h5 : s 5 5 = nI e) (h6 : s 5 6 = nI b) (hbe : b ≤ e) (hez : e ≤ z) : f_X2_isRead 12 s = some (if isWd B b e 8 = true then 1 else 0, s) := c_isRd h h5 h6 hbe hez rfl (by decide) (by decide +kernel)
theorem c_name {B : Nat → Nat} {z b e : Nat} {s : zMem} (h : tpC B z s) (h5 : s 5 5 = nI e) (h6 : s 5 6 = nI b) (hbe : b ≤ e) (hez : e ≤ z) : f_X2_nameRead s = some (if 3 ≤ wix B b e ∧ wix B b e < 9 then nI (wix B b e - 3) else -1, s) := by
  unfold f_X2_nameRead
  rw [c_isRd7 h h5 h6 hbe hez, bd_s, zif01, c_isRd8 h h5 h6 hbe hez, bd_s, zif01, c_isRd9 h h5 h6 hbe hez, bd_s, zif01, c_isRd10 h h5 h6 hbe hez, bd_s, zif01, c_isRd11 h h5 h6 hbe hez, bd_s, zif01, c_isRd12 h h5 h6 hbe hez, bd_s, zif01]
  by_cases q3 : isWd B b e 3 = true
  · rw [if_pos q3, wix_hit (by omega) q3]; rfl
  by_cases q4 : isWd B b e 4 = true
  · rw [if_neg q3, if_pos q4, wix_hit (by omega) q4]; rfl
  by_cases q5 : isWd B b e 5 = true
  · rw [if_neg q3, if_neg q4, if_pos q5, wix_hit (by omega) q5]; rfl
  by_cases q6 : isWd B b e 6 = true
  · rw [if_neg q3, if_neg q4, if_neg q5, if_pos q6, wix_hit (by omega) q6]; rfl
  by_cases q7 : isWd B b e 7 = true
  · rw [if_neg q3, if_neg q4, if_neg q5, if_neg q6, if_pos q7, wix_hit (by omega) q7]; rfl
  by_cases q8 : isWd B b e 8 = true
  · rw [if_neg q3, if_neg q4, if_neg q5, if_neg q6, if_neg q7, if_pos q8, wix_hit (by omega) q8]; rfl
  rw [if_neg q3, if_neg q4, if_neg q5, if_neg q6, if_neg q7, if_neg q8, if_neg]
  intro q
  rcases wixF_s B b e 12 0 rfl with ⟨h1, _⟩ | ⟨_, h2, h3⟩
  · have : wix B b e = 12 := h1
    omega
  · have h4 : isWd B b e (wix B b e) = true := h3
    rcases (by omega : wix B b e = 3 ∨ wix B b e = 4 ∨ wix B b e = 5 ∨ wix B b e = 6 ∨ wix B b e = 7 ∨ wix B b e = 8) with e1 | e1 | e1 | e1 | e1 | e1 <;> rw [e1] at h4 <;> contradiction
theorem c_key {B : Nat → Nat} {z b e : Nat} {s : zMem} (h : tpC B z s) (h5 : s 5 5 = nI e) (h6 : s 5 6 = nI b) (hbe : b ≤ e) (hez : e ≤ z) (hn : ¬ (3 ≤ wix B b e ∧ wix B b e < 9)) : f_X2_keyRead s = some (nI (kdW (wix B b e)), s) := by
  unfold f_X2_keyRead
  rw [c_isRd1 h h5 h6 hbe hez, bd_s, zif01, c_isRd2 h h5 h6 hbe hez, bd_s, zif01, c_isRd3 h h5 h6 hbe hez, bd_s, zif01, c_isRd4 h h5 h6 hbe hez, bd_s, zif01, c_isRd5 h h5 h6 hbe hez, bd_s, zif01, c_isRd6 h h5 h6 hbe hez, bd_s, zif01]
  by_cases q3 : isWd B b e 0 = true
  · rw [if_pos q3, wix_hit (by omega) q3]; rfl
  by_cases q4 : isWd B b e 1 = true
  · rw [if_neg q3, if_pos q4, wix_hit (by omega) q4]; rfl
  by_cases q5 : isWd B b e 2 = true
  · rw [if_neg q3, if_neg q4, if_pos q5, wix_hit (by omega) q5]; rfl
  by_cases q6 : isWd B b e 9 = true
  · rw [if_neg q3, if_neg q4, if_neg q5, if_pos q6, wix_hit (by omega) q6]; rfl
  by_cases q7 : isWd B b e 10 = true
  · rw [if_neg q3, if_neg q4, if_neg q5, if_neg q6, if_pos q7, wix_hit (by omega) q7]; rfl
  by_cases q8 : isWd B b e 11 = true
  · rw [if_neg q3, if_neg q4, if_neg q5, if_neg q6, if_neg q7, if_pos q8, wix_hit (by omega) q8]; rfl
  rw [if_neg q3, if_neg q4, if_neg q5, if_neg q6, if_neg q7, if_neg q8]
  rcases wixF_s B b e 12 0 rfl with ⟨h1, _⟩ | ⟨_, h2, h3⟩
  · have : wix B b e = 12 := h1
    rw [this]; rfl
  · have h4 : isWd B b e (wix B b e) = true := h3
    have h5 : wix B b e < 12 := h2
    rcases (by omega : wix B b e = 0 ∨ wix B b e = 1 ∨ wix B b e = 2 ∨ wix B b e = 9 ∨ wix B b e = 10 ∨ wix B b e = 11) with e1 | e1 | e1 | e1 | e1 | e1 <;> rw [e1] at h4 <;> contradiction
theorem c_tok {B : Nat → Nat} {z q : Nat} {s : zMem} (h : tpC B z s) (hq : q ≤ z) (h5 : s 5 5 = nI q) : ∃ S, f_X2_readToken s = some ((), S) ∧ S 5 5 = nI (tkE B z q) ∧ S 5 6 = nI (tkB B z q) ∧ S 5 7 = nI (tkK B z q) ∧ (tkK B z q = 2 ∨ tkK B z q = 3 → S 5 8 = nI (tkV B z q)) := by
  have hz := h.2.1
  unfold f_X2_readToken
  rw [nm_eq, h5]
  obtain ⟨S1, e1, f1, f2⟩ := c_skip (c := fun s10 => f_X2_readToken_37 s10) zN q s h hq (by unfold zN; omega) h5
  have hb := run_b isBl B z q
  rw [e1]
  unfold f_X2_readToken_37
  have hB : run isBl B z q = tkB B z q := rfl
  rw [hB] at f1 hb
  generalize hbb : tkB B z q = b at f1 hb
  rw [nm_eq, f1]
  have t2 : tpC B z (zUp S1 5 6 (nI b)) := h.of (by rw [zUp_off (by omega), f2 _ _ (by omega)]) (fun i _ => by rw [zUp_off (by omega), f2 _ _ (by omega)])
  obtain ⟨x, hx⟩ := c_byteAt' (s := zUp S1 5 6 (nI b)) hz (hb.2 hq)
  have g6 : zUp S1 5 6 (nI b) 5 6 = nI b := zUp_hit _ _ _ _
  have g5 : zUp S1 5 6 (nI b) 5 5 = nI b := by rw [zUp_off (by omega)]; exact f1
  rw [g6, hx, bd_s, g6, t2.1]
  by_cases c1 : z ≤ b
  · rw [if_neg (nI_nlt c1 (by omega)), nm_eq]
    refine ⟨_, rfl, ?_, ?_, ?_, ?_⟩
    · rw [zUp_off (by omega), g5]; unfold tkE; rw [hbb, if_pos c1]
    · rw [zUp_off (by omega), g6]
    · rw [zUp_hit]; unfold tkK; rw [hbb, if_pos c1]; rfl
    · unfold tkK; rw [hbb, if_pos c1]; intro; omega
  · have hbz : b < z := by omega
    have hx2 : x = nI (B b) := by
      have := c_byteAt t2 hbz
      rw [hx] at this
      simp at this
      exact this
    have hB2 := (t2.2.2 b hbz).2
    rw [if_pos (nI_lt hbz (by omega)), hx2, c_isLetter hB2, bd_s, zif01]
    by_cases c2 : isLe (B b) = true
    · rw [if_pos c2]
      unfold f_X2_endOfWord
      have hw := c_word zN b (zUp S1 5 6 (nI b)) t2 (by omega) (by unfold zN; omega)
      have hwb := run_b isLe B z b
      have he : tkE B z q = run isLe B z b := by unfold tkE; rw [hbb, if_neg c1, if_pos c2]
      generalize run isLe B z b = e at hw hwb he
      rw [nm_eq, nm_eq, g6, hw, bd_s, nm_eq]
      have t3 : tpC B z (zUp (zUp S1 5 6 (nI b)) 5 5 (nI e)) := t2.of (zUp_off (by omega)) (fun i _ => zUp_off (by omega))
      have k5 : zUp (zUp S1 5 6 (nI b)) 5 5 (nI e) 5 5 = nI e := zUp_hit _ _ _ _
      have k6 : zUp (zUp S1 5 6 (nI b)) 5 5 (nI e) 5 6 = nI b := by rw [zUp_off (by omega), g6]
      have hK : tkK B z q = kdW (wix B b e) := by unfold tkK; rw [hbb, if_neg c1, if_pos c2, he]
      have hV : tkV B z q = wix B b e - 3 := by unfold tkV; rw [hbb, if_pos c2, he]
      rw [c_name t3 k5 k6 hwb.1 (hwb.2 (by omega)), bd_s, nm_eq, zUp_hit]
      by_cases c3 : 3 ≤ wix B b e ∧ wix B b e < 9
      · have hk3 : kdW (wix B b e) = 3 := by unfold kdW; rw [if_neg (by omega), if_pos c3.2]
        have hm1 : ¬ nI (wix B b e - 3) = -1 := fun r => absurd (r ▸ nI_pos' (show wix B b e - 3 < 2 ^ 31 by omega)) (by decide)
        rw [if_pos c3, if_neg hm1, nm_eq]
        refine ⟨_, rfl, ?_, ?_, ?_, fun _ => ?_⟩
        · rw [zUp_off (by omega), zUp_off (by omega), k5, he]
        · rw [zUp_off (by omega), zUp_off (by omega), k6]
        · rw [zUp_hit, hK, hk3]; rfl
        · rw [zUp_off (by omega), zUp_hit, hV]
      · rw [if_neg c3, if_pos rfl]
        have t4 : tpC B z (zUp (zUp (zUp S1 5 6 (nI b)) 5 5 (nI e)) 5 8 (-1)) := t3.of (zUp_off (by omega)) (fun i _ => zUp_off (by omega))
        have m5 : zUp (zUp (zUp S1 5 6 (nI b)) 5 5 (nI e)) 5 8 (-1) 5 5 = nI e := by rw [zUp_off (by omega), k5]
        have m6 : zUp (zUp (zUp S1 5 6 (nI b)) 5 5 (nI e)) 5 8 (-1) 5 6 = nI b := by rw [zUp_off (by omega), k6]
        rw [c_key t4 m5 m6 hwb.1 (hwb.2 (by omega)) c3, bd_s, nm_eq]
        refine ⟨_, rfl, ?_, ?_, ?_, fun hk => ?_⟩
        · rw [zUp_off (by omega), m5, he]
        · rw [zUp_off (by omega), m6]
        · rw [zUp_hit, hK]
        · exfalso
          rw [hK] at hk
          unfold kdW at hk
          split at hk
          · omega
          · split at hk
            · omega
            · split at hk <;> omega
    · rw [if_neg c2, c_isDigit hB2, bd_s, zif01]
      by_cases c3 : isDi (B b) = true
      · rw [if_pos c3]
        unfold f_X2_readNumber
        have t3 : tpC B z (zUp (zUp S1 5 6 (nI b)) 5 8 0) := t2.of (zUp_off (by omega)) (fun i _ => zUp_off (by omega))
        have k5 : zUp (zUp S1 5 6 (nI b)) 5 8 0 5 5 = nI b := by rw [zUp_off (by omega), g5]
        have k6 : zUp (zUp S1 5 6 (nI b)) 5 8 0 5 6 = nI b := by rw [zUp_off (by omega), g6]
        rw [nm_eq, nm_eq, k6]
        obtain ⟨S2, e2, u5, u8, uf⟩ := c_num (c := fun s14 => if ((s14 5 5) - (s14 5 6)) ≤ 4 then nm (zUp s14 5 7 2) fun s15 => some ((), s15) else nm (zUp s14 5 7 1) fun s16 => some ((), s16)) zN b 0 (zUp (zUp S1 5 6 (nI b)) 5 8 0) t3 (by omega) (by unfold zN; omega) k5 (zUp_hit _ _ _ _)
        have hrb := run_b isDi B z b
        have he : tkE B z q = run isDi B z b := by unfold tkE; rw [hbb, if_neg c1, if_neg c2, if_pos c3]
        have hV : tkV B z q = numV B z 0 b := by unfold tkV; rw [hbb, if_neg c2]
        have hK : tkK B z q = if tkE B z q - b ≤ 4 then 2 else 1 := by unfold tkK; rw [hbb, if_neg c1, if_neg c2, if_pos c3]
        rw [← he] at u5 hrb
        have u6 : S2 5 6 = nI b := by rw [uf _ _ (by omega), k6]
        have hez := hrb.2 (by omega)
        rw [e2]
        rw [u5, u6, nI_sub hrb.1]
        have e4 : (nI (tkE B z q - b) ≤ 4) = (tkE B z q - b ≤ 4) := propext (nI_leI (b := 4) (by omega) (by omega))
        by_cases c4 : tkE B z q - b ≤ 4
        · rw [if_pos (e4.mpr c4), nm_eq, bd_s]
          refine ⟨_, rfl, ?_, ?_, ?_, fun _ => ?_⟩
          · rw [zUp_off (by omega), u5]
          · rw [zUp_off (by omega), u6]
          · rw [zUp_hit, hK, if_pos c4]; rfl
          · rw [zUp_off (by omega), u8, hV]
        · rw [if_neg (fun r => c4 (e4.mp r)), nm_eq, bd_s]
          refine ⟨_, rfl, ?_, ?_, ?_, fun hk => ?_⟩
          · rw [zUp_off (by omega), u5]
          · rw [zUp_off (by omega), u6]
          · rw [zUp_hit, hK, if_neg c4]; rfl
          · rw [hK, if_neg c4] at hk; omega
      · have he : tkE B z q = b + 1 := by unfold tkE; rw [hbb, if_neg c1, if_neg c2, if_neg c3]
        have hK : tkK B z q = if isSg (B b) = true then B b else 1 := by unfold tkK; rw [hbb, if_neg c1, if_neg c2, if_neg c3]
        have hns : isSg (B b) = true → ¬ (B b = 2 ∨ B b = 3) := by
          intro r r2
          unfold isSg at r
          rcases r2 with r2 | r2 <;> rw [r2] at r <;> exact absurd r (by decide)
        rw [if_neg c3, nm_eq, g6, nI_1, c_isSign hB2, bd_s, zif01]
        by_cases c4 : isSg (B b) = true
        · rw [if_pos c4, nm_eq]
          refine ⟨_, rfl, ?_, ?_, ?_, fun hk => ?_⟩
          · rw [zUp_off (by omega), zUp_hit, he]
          · rw [zUp_off (by omega), zUp_off (by omega), g6]
          · rw [zUp_hit, hK, if_pos c4]
          · rw [hK, if_pos c4] at hk; exact absurd hk (hns c4)
        · rw [if_neg c4, nm_eq]
          refine ⟨_, rfl, ?_, ?_, ?_, fun hk => ?_⟩
          · rw [zUp_off (by omega), zUp_hit, he]
          · rw [zUp_off (by omega), zUp_off (by omega), g6]
          · rw [zUp_hit, hK, if_neg c4]; rfl
          · rw [hK, if_neg c4] at hk; omega

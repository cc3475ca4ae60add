-- steps: text
def nwP (P : zP) (K : Nat) (D0 D1 D2 : List Nat) : zP := fun t p => if t = K then (if p = 0 then D0 else if p = 1 then D1 else D2) else P t p
theorem nwP_o {P : zP} {K t p : Nat} {D0 D1 D2 : List Nat} (h : t ≠ K) : nwP P K D0 D1 D2 t p = P t p := if_neg h
theorem offP_o {P : zP} {K t : Nat} {D0 D1 D2 : List Nat} (h : t ≠ K) : ∀ p, offP (nwP P K D0 D1 D2) t p = offP P t p := by
  intro p
  induction p with
  | zero => rfl
  | succ p ih =>
    show offP (nwP P K D0 D1 D2) t p + (nwP P K D0 D1 D2 t p).length = offP P t p + (P t p).length
    rw [ih, nwP_o h]
theorem nwP_n {P : zP} {K : Nat} {D0 D1 D2 : List Nat} : nwP P K D0 D1 D2 K 0 = D0 ∧ nwP P K D0 D1 D2 K 1 = D1 ∧ nwP P K D0 D1 D2 K 2 = D2 := by
  unfold nwP
  exact ⟨by rw [if_pos rfl]; rfl, by rw [if_pos rfl]; rfl, by rw [if_pos rfl]; rfl⟩
theorem offP_n {P : zP} {K : Nat} {D0 D1 D2 : List Nat} : offP (nwP P K D0 D1 D2) K 0 = 0 ∧ offP (nwP P K D0 D1 D2) K 1 = D0.length ∧ offP (nwP P K D0 D1 D2) K 2 = D0.length + D1.length ∧ offP (nwP P K D0 D1 D2) K 3 = D0.length + D1.length + D2.length := by
  obtain ⟨n0, n1, n2⟩ := nwP_n (P := P) (K := K) (D0 := D0) (D1 := D1) (D2 := D2)
  have e0 : offP (nwP P K D0 D1 D2) K 0 = 0 := rfl
  have e1 : offP (nwP P K D0 D1 D2) K 1 = offP (nwP P K D0 D1 D2) K 0 + (nwP P K D0 D1 D2 K 0).length := rfl
  have e2 : offP (nwP P K D0 D1 D2) K 2 = offP (nwP P K D0 D1 D2) K 1 + (nwP P K D0 D1 D2 K 1).length := rfl
  have e3 : offP (nwP P K D0 D1 D2) K 3 = offP (nwP P K D0 D1 D2) K 2 + (nwP P K D0 D1 D2 K 2).length := rfl
  rw [n0] at e1
  rw [n1] at e2
  rw [n2] at e3
  exact ⟨e0, by omega, by omega, by omega⟩
theorem cdC_loc {s S : zMem} : ∀ {l : List Nat} {i : Nat}, cdC s i l → (∀ k, i ≤ k → k < i + l.length → S 2 k = s 2 k) → cdC S i l := by
  intro l
  induction l with
  | nil => intro _ _ _; trivial
  | cons v r ih =>
    intro i q h
    simp only [List.length_cons] at h
    exact ⟨by rw [h i (by omega) (by omega)]; exact q.1, ih q.2 (fun k h1 h2 => h k (by omega) (by omega))⟩
theorem cdM_loc {s S : zMem} : ∀ {l : List Nat} {i : Nat}, cdM s i l → (∀ k, i ≤ k → k < i + l.length → S 56 k = s 56 k) → cdM S i l := by
  intro l
  induction l with
  | nil => intro _ _ _; trivial
  | cons v r ih =>
    intro i q h
    simp only [List.length_cons] at h
    exact ⟨by rw [h i (by omega) (by omega)]; exact q.1, ih q.2 (fun k h1 h2 => h k (by omega) (by omega))⟩
theorem cdC_of {s : zMem} : ∀ {l : List Nat} {a : Nat}, (∀ i, i < l.length → s 2 (a + i) = encC (l.getD i 0)) → cdC s a l := by
  intro l
  induction l with
  | nil => intro _ _; trivial
  | cons v r ih =>
    intro a h
    refine ⟨h 0 (by simp), ih (fun i hi => ?_)⟩
    have := h (i + 1) (by simp; omega)
    rw [show a + 1 + i = a + (i + 1) by omega, this]
    rfl
theorem cdM_of {s : zMem} : ∀ {l : List Nat} {a : Nat}, (∀ i, i < l.length → s 56 (a + i) = nI (l.getD i 0)) → cdM s a l := by
  intro l
  induction l with
  | nil => intro _ _; trivial
  | cons v r ih =>
    intro a h
    refine ⟨h 0 (by simp), ih (fun i hi => ?_)⟩
    have := h (i + 1) (by simp; omega)
    rw [show a + 1 + i = a + (i + 1) by omega, this]
    rfl
theorem getD_l {l1 l2 : List Nat} {i : Nat} (h : i < l1.length) : (l1 ++ l2).getD i 0 = l1.getD i 0 := by
  rw [List.getD_eq_getElem?_getD, List.getD_eq_getElem?_getD, List.getElem?_append_left h]
theorem getD_r {l1 l2 : List Nat} {i : Nat} : (l1 ++ l2).getD (l1.length + i) 0 = l2.getD i 0 := by
  rw [List.getD_eq_getElem?_getD, List.getD_eq_getElem?_getD, List.getElem?_append_right (by omega), Nat.add_sub_cancel_left]
theorem grX_good {B : Nat → Nat} {z : Nat} {D0 D1 D2 : List Nat} (hz : z ≤ 160) (h : grX B z = .ok (D0, D1, D2)) : goodD D0 ∧ goodD D1 ∧ goodD D2 ∧ D0.length + D1.length + D2.length ≤ 160 := by
  unfold grX at h
  cases hg1 : grP B z 0 0 with
  | error f => rw [hg1] at h; cases h
  | ok x =>
    obtain ⟨q1, E0⟩ := x
    have l1 := grP_len (B := B) (by omega) hg1
    rw [hg1] at h
    dsimp only at h
    cases hg2 : grP B z 1 q1 with
    | error f => rw [hg2] at h; cases h
    | ok x =>
      obtain ⟨q2, E1⟩ := x
      have l2 := grP_len (B := B) l1.2 hg2
      rw [hg2] at h
      dsimp only at h
      cases hg3 : grP B z 2 q2 with
      | error f => rw [hg3] at h; cases h
      | ok x =>
        obtain ⟨q3, E2⟩ := x
        have l3 := grP_len (B := B) l2.2 hg3
        rw [hg3] at h
        dsimp only at h
        split at h
        · injection h with h
          injection h with h1 h2
          injection h2 with h2 h3
          subst h1 h2 h3
          exact ⟨grP_good (by omega) hg1, grP_good l1.2 hg2, grP_good l2.2 hg3, by omega⟩
        · cases h
theorem okP_nw {P : zP} {K : Nat} {D0 D1 D2 : List Nat} (h : okP P K) (hK : K < 6) (g0 : goodD D0) (g1 : goodD D1) (g2 : goodD D2) (hl : D0.length + D1.length + D2.length ≤ 160) : okP (nwP P K D0 D1 D2) (K + 1) := by
  refine ⟨by omega, fun t ht => ?_⟩
  by_cases q : t = K
  · subst q
    obtain ⟨n0, n1, n2⟩ := nwP_n (P := P) (K := t) (D0 := D0) (D1 := D1) (D2 := D2)
    refine ⟨by rw [offP_n.2.2.2]; exact hl, fun p hp => ?_⟩
    rcases (by omega : p = 0 ∨ p = 1 ∨ p = 2) with rfl | rfl | rfl
    · rw [n0]; exact ⟨g0.1 0, g0.2⟩
    · rw [n1]; exact ⟨g1.1 0, g1.2⟩
    · rw [n2]; exact ⟨g2.1 0, g2.2⟩
  · have := h.2 t (by omega)
    rw [offP_o q]
    refine ⟨this.1, fun p hp => ?_⟩
    rw [nwP_o q]
    exact this.2 p hp
theorem txC_nw {P : zP} {K : Nat} {D0 D1 D2 : List Nat} {s S : zMem} (hok : okP P K) (h : txC P K s) (h2 : ∀ k, k < 160 * K → S 2 k = s 2 k) (h3 : ∀ k, k < 3 * K → S 3 k = s 3 k) (e0 : S 3 (3 * K) = nI D0.length) (e1 : S 3 (3 * K + 1) = nI (D0 ++ D1).length) (e2 : S 3 (3 * K + 2) = nI (D0 ++ D1 ++ D2).length) (hc : ∀ i, i < (D0 ++ D1 ++ D2).length → S 2 (160 * K + i) = encC ((D0 ++ D1 ++ D2).getD i 0)) : txC (nwP P K D0 D1 D2) (K + 1) S := by
  intro t ht p hp
  by_cases q : t = K
  · subst q
    obtain ⟨n0, n1, n2⟩ := nwP_n (P := P) (K := t) (D0 := D0) (D1 := D1) (D2 := D2)
    obtain ⟨o0, o1, o2, o3⟩ := offP_n (P := P) (K := t) (D0 := D0) (D1 := D1) (D2 := D2)
    simp only [List.length_append] at e1 e2 hc
    rcases (by omega : p = 0 ∨ p = 1 ∨ p = 2) with rfl | rfl | rfl
    · rw [n0, o0, o1]
      exact ⟨e0, cdC_of (fun i hi => by rw [Nat.add_zero, hc i (by omega), List.append_assoc, getD_l hi])⟩
    · rw [n1, o1, o2]
      exact ⟨e1, cdC_of (fun i hi => by rw [Nat.add_assoc, hc _ (by omega), List.append_assoc, getD_r, getD_l hi])⟩
    · rw [n2, o2, o3]
      exact ⟨e2, cdC_of (fun i hi => by rw [Nat.add_assoc, hc _ (by omega), ← List.length_append, getD_r])⟩
  · have ht2 : t < K := by omega
    have hl := offP_le (P := P) (t := t) hp
    have ho := (hok.2 t ht2).1
    rw [nwP_o q, offP_o q, offP_o q]
    refine ⟨by rw [h3 _ (by omega)]; exact (h t ht2 p hp).1, cdC_loc (h t ht2 p hp).2 (fun k k1 k2 => h2 k ?_)⟩
    have : 160 * t + 160 ≤ 160 * K := by omega
    omega
theorem txM_nw {P : zP} {K : Nat} {D0 D1 D2 : List Nat} {s S : zMem} (hok : okP P K) (h : txM P K s) (h2 : ∀ k, k < 200 * K → S 56 k = s 56 k) (h3 : ∀ k, k < 4 * K → S 57 k = s 57 k) (e9 : S 57 (4 * K) = 0) (e0 : S 57 (4 * K + 1) = nI D0.length) (e1 : S 57 (4 * K + 2) = nI (D0 ++ D1).length) (e2 : S 57 (4 * K + 3) = nI (D0 ++ D1 ++ D2).length) (hc : ∀ i, i < (D0 ++ D1 ++ D2).length → S 56 (200 * K + i) = nI ((D0 ++ D1 ++ D2).getD i 0)) : txM (nwP P K D0 D1 D2) (K + 1) S := by
  intro t ht p hp
  by_cases q : t = K
  · subst q
    obtain ⟨n0, n1, n2⟩ := nwP_n (P := P) (K := t) (D0 := D0) (D1 := D1) (D2 := D2)
    obtain ⟨o0, o1, o2, o3⟩ := offP_n (P := P) (K := t) (D0 := D0) (D1 := D1) (D2 := D2)
    simp only [List.length_append] at e1 e2 hc
    rcases (by omega : p = 0 ∨ p = 1 ∨ p = 2) with rfl | rfl | rfl
    · rw [n0, o0, o1]
      exact ⟨e9, e0, cdM_of (fun i hi => by rw [Nat.add_zero, hc i (by omega), List.append_assoc, getD_l hi])⟩
    · rw [n1, o1, o2]
      exact ⟨e0, e1, cdM_of (fun i hi => by rw [Nat.add_assoc, hc _ (by omega), List.append_assoc, getD_r, getD_l hi])⟩
    · rw [n2, o2, o3]
      exact ⟨e1, e2, cdM_of (fun i hi => by rw [Nat.add_assoc, hc _ (by omega), ← List.length_append, getD_r])⟩
  · have ht2 : t < K := by omega
    have hl := offP_le (P := P) (t := t) hp
    have ho := (hok.2 t ht2).1
    rw [nwP_o q, offP_o q, offP_o q]
    refine ⟨by rw [h3 _ (by omega)]; exact (h t ht2 p hp).1, by rw [h3 _ (by omega)]; exact (h t ht2 p hp).2.1, cdM_loc (h t ht2 p hp).2.2 (fun k k1 k2 => h2 k ?_)⟩
    have : 200 * t + 200 ≤ 200 * K := by omega
    omega
theorem zRX.text {T U : zT} {P : zP} {K F : Nat} {Z : zZ} (hx : zRX T U P K F Z) {D0 D1 D2 : List Nat} (ok : okP (nwP P K D0 D1 D2) (K + 1)) : zRX T U (nwP P K D0 D1 D2) (K + 1) F Z :=
  ⟨hx.1, by have := hx.2.1; omega, ok, hx.2.2.2.1, fun q => by have := hx.2.2.2.2.1 q; exact ⟨this.1, by omega, this.2.2⟩, hx.2.2.2.2.2⟩
/-- the class keeps what it has read -/
theorem k_keep {K : Nat} {s : zMem} (e : s 1 3 = nI K) (hK : K < 6) : ∃ S, f_X4_keep s = some (nI K, S) ∧ S 1 3 = nI (K + 1) ∧ (∀ k, k < 160 * K → S 2 k = s 2 k) ∧ (∀ i, i < 160 → S 2 (160 * K + i) = s 7 i) ∧ (∀ k, k < 3 * K → S 3 k = s 3 k) ∧ ∀ i, i < 3 → S 3 (3 * K + i) = s 8 i := by
  have m1 : nI K * 160 = nI (160 * K) := by rw [show (160 : Int32) = nI 160 from rfl, nI_mul, Nat.mul_comm]
  have m2 : nI K * 3 = nI (3 * K) := by rw [show (3 : Int32) = nI 3 from rfl, nI_mul, Nat.mul_comm]
  have c1 : zcpOk 0 (nI (160 * K)) 160 160 960 = true := by
    rcases (by omega : K = 0 ∨ K = 1 ∨ K = 2 ∨ K = 3 ∨ K = 4 ∨ K = 5) with rfl | rfl | rfl | rfl | rfl | rfl <;> rfl
  have c2 : zcpOk 0 (nI (3 * K)) 3 3 18 = true := by
    rcases (by omega : K = 0 ∨ K = 1 ∨ K = 2 ∨ K = 3 ∨ K = 4 ∨ K = 5) with rfl | rfl | rfl | rfl | rfl | rfl <;> rfl
  unfold f_X4_keep
  rw [e, if_pos (show nI K < 6 from nI_lt (b := 6) hK (by omega)), m1, gd_t c1, nm_eq, zix_nI (by omega), show zix 0 = 0 from rfl, show zix 160 = 160 from rfl]
  have e1 : zCp s 7 0 2 (160 * K) 160 1 3 = nI K := by unfold zCp; rw [if_neg (by omega)]; exact e
  rw [e1, m2, gd_t c2, nm_eq, zix_nI (by omega), show zix 3 = 3 from rfl]
  have e2 : zCp (zCp s 7 0 2 (160 * K) 160) 8 0 3 (3 * K) 3 1 3 = nI K := by unfold zCp; rw [if_neg (by omega), if_neg (by omega)]; exact e
  rw [e2, nI_1, nm_eq, zUp_hit, nI_pred]
  refine ⟨_, rfl, zUp_hit _ _ _ _, fun k hk => ?_, fun i hi => ?_, fun k hk => ?_, fun i hi => ?_⟩
  · rw [zUp_off (by omega)]
    unfold zCp
    rw [if_neg (by omega), if_pos rfl]
    exact pk_cpy_out (Or.inl hk)
  · rw [zUp_off (by omega)]
    unfold zCp
    rw [if_neg (by omega), if_pos rfl, pk_cpy_in (by omega) (by omega)]
    congr 1
    omega
  · rw [zUp_off (by omega)]
    unfold zCp
    rw [if_pos rfl, pk_cpy_out (Or.inl hk), if_neg (by omega)]
  · rw [zUp_off (by omega)]
    unfold zCp
    rw [if_pos rfl, pk_cpy_in (by omega) (by omega), if_neg (by omega)]
    congr 1
    omega
theorem step_text : stepOk (fun s => f_X6_text s) (fun s => f_X7_text s) := by
  refine step_c (fun a k v s hk e => fr_X6_text a k (by omega) e) (fun a k v s hk e => fr_X7_text a k (by omega) e) ?_
  intro T U P K F z B Z s hx hc
  show ∃ T' U' P' K' F' z' B' Z' v S, f_X6_text s = some (v, S) ∧ _
  have hK6 := hx.2.2.1.1
  have htp := hc.2.2.2.1
  have hz := htp.2.1
  obtain ⟨y1, y2, y3, y4, y5, y6, y7, y8⟩ := id hc
  unfold f_X6_text
  rw [y3]
  by_cases hK : K < 6
  case neg =>
    rw [if_neg (show ¬ nI K < 6 from nI_nlt (b := 6) (by omega) (by omega))]
    refine ⟨T, U, P, K, F, z, B, Z, _, s, rfl, hx, hc, fun S hm => ⟨S, ?_, hm⟩⟩
    show f_X7_text S = _
    unfold f_X7_text
    rw [hm.2.2.1, if_pos (show nI K = 6 by rw [show K = 6 by omega]; rfl)]
  rw [if_pos (show nI K < 6 from nI_lt (b := 6) hK (by omega))]
  have hr := c_readText htp
  have tp0 : ∀ S : zMem, S 5 1 = 0 → tpC B 0 S := fun S e => ⟨e, by omega, fun i hi => by omega⟩
  have tm0 : ∀ S : zMem, S 47 11 = 0 → tpM B 0 S := fun S e => ⟨e, by omega, fun i hi => by omega⟩
  have hmm : ∀ S, zRM T U P K F z B Z S → _ := fun S hm => m_text hm.2.2.2.1 hm.2.2.2.2.2.2.2.2 hK hm.2.2.1
  cases hg : grX B z with
  | error f =>
    rw [hg] at hr
    obtain ⟨S1, e1, hf⟩ := hr
    have f1 : ∀ a k, ¬ (a = 5 ∨ a = 7 ∨ a = 8) → S1 a k = s a k := fun a k hk => fr_X2_readText a k (by omega) rfl _ S1 e1
    rw [e1, bd_s, if_neg (nIm1 (by omega)), nm_eq]
    unfold f_X2_clear
    rw [nm_eq, bd_s]
    have f2 : ∀ a k, ¬ (a = 5 ∨ a = 7 ∨ a = 8) → zUp S1 5 1 0 a k = s a k := fun a k hk => by rw [zUp_off (by omega), f1 a k hk]
    refine ⟨T, U, P, K, F, 0, B, Z, _, _, rfl, hx, ⟨y1.of (fun a k hk => f2 a k (by omega)), y2.of (fun k => f2 _ _ (by omega)) (fun k => f2 _ _ (by omega)), by rw [f2 _ _ (by omega), y3], tp0 _ (zUp_hit _ _ _ _), by rw [f2 _ _ (by omega), y5], fun q => (y6 q).of (fun a k hk => f2 a k (by omega)), fun i hi => by rw [f2 _ _ (by omega), f2 _ _ (by omega)]; exact y7 i hi, fun i hi => by rw [f2 _ _ (by omega)]; exact y8 i hi⟩, fun S hm => ?_⟩
    have h := hmm S hm
    rw [hg] at h
    obtain ⟨S2, e2, h14, k1, k2, k3⟩ := h
    have g : ∀ a k, ¬ ((a = 47 ∧ (k = 11 ∨ k = 14 ∨ k = 23 ∨ k = 24 ∨ k = 25 ∨ k = 26 ∨ k = 29 ∨ k = 30 ∨ k = 31)) ∨ a = 56 ∨ a = 57 ∨ a = 65) → S2 a k = S a k := fun a k hk => fr_X7_text a k hk rfl _ S2 e2
    obtain ⟨m1, m2, m3, m4, m5, m6, m7, m8, m9⟩ := hm
    refine ⟨S2, e2, m1.of (fun a k hk => g a k (by omega)), fun t ht p hp => ?_, h14, tm0 _ k3, by rw [g _ _ (by omega), m5], fun q => (m6 q).of (fun k => g _ _ (by omega)) (fun k => g _ _ (by omega)), fun i hi => by rw [g _ _ (by omega), g _ _ (by omega)]; exact m7 i hi, fun i hi => by rw [g _ _ (by omega)]; exact m8 i hi, m9.of (fun k => g _ _ (by omega))⟩
    obtain ⟨q1, q2, q3⟩ := m2 t ht p hp
    have hl := offP_le (P := P) (t := t) hp
    have ho := (hx.2.2.1.2 t ht).1
    refine ⟨by rw [k2 _ (by omega), q1], by rw [k2 _ (by omega), q2], cdM_loc q3 (fun k h1 h2 => k1 k ?_)⟩
    have : 200 * t + 200 ≤ 200 * K := by omega
    omega
  | ok x =>
    obtain ⟨D0, D1, D2⟩ := x
    rw [hg] at hr
    obtain ⟨g0, g1, g2, gl⟩ := grX_good hz hg
    obtain ⟨S1, e1, a0, a1, a2, a3⟩ := hr
    have f1 : ∀ a k, ¬ (a = 5 ∨ a = 7 ∨ a = 8) → S1 a k = s a k := fun a k hk => fr_X2_readText a k (by omega) rfl _ S1 e1
    rw [e1, bd_s, if_pos rfl]
    obtain ⟨S2, e2, b0, b1, b2, b3, b4⟩ := k_keep (K := K) (s := S1) (by rw [f1 _ _ (by omega), y3]) hK
    have f2 : ∀ a k, ¬ ((a = 1 ∧ k = 3) ∨ a = 2 ∨ a = 3 ∨ a = 5 ∨ a = 7 ∨ a = 8) → S2 a k = s a k := fun a k hk => (fr_X4_keep a k (by omega) rfl _ S2 e2).trans (f1 a k (by omega))
    rw [e2, bd_s]
    unfold f_X2_clear
    rw [nm_eq, bd_s]
    have f3 : ∀ a k, ¬ (a = 5) → zUp S2 5 1 0 a k = S2 a k := fun a k hk => zUp_off (by omega)
    have f4 : ∀ a k, ¬ ((a = 1 ∧ k = 3) ∨ a = 2 ∨ a = 3 ∨ a = 5 ∨ a = 7 ∨ a = 8) → zUp S2 5 1 0 a k = s a k := fun a k hk => by rw [f3 a k (by omega), f2 a k hk]
    have ok := okP_nw hx.2.2.1 hK g0 g1 g2 gl
    have hl3 : (D0 ++ D1 ++ D2).length ≤ 160 := by simp only [List.length_append]; omega
    have tx : txC (nwP P K D0 D1 D2) (K + 1) (zUp S2 5 1 0) := txC_nw hx.2.2.1 y2 (fun k hk => by rw [f3 _ _ (by omega), b1 k hk, f1 _ _ (by omega)]) (fun k hk => by rw [f3 _ _ (by omega), b3 k hk, f1 _ _ (by omega)]) (by rw [f3 _ _ (by omega)]; exact (b4 0 (by omega)).trans a0) (by rw [f3 _ _ (by omega), b4 1 (by omega), a1]) (by rw [f3 _ _ (by omega), b4 2 (by omega), a2]) (fun i hi => by rw [f3 _ _ (by omega), b2 i (by omega), a3 i hi])
    refine ⟨T, U, nwP P K D0 D1 D2, K + 1, F, 0, B, Z, _, _, rfl, hx.text ok, ⟨y1.of (fun a k hk => f4 a k (by omega)), tx, by rw [f3 _ _ (by omega), b0], tp0 _ (zUp_hit _ _ _ _), by rw [f4 _ _ (by omega), y5], fun q => (y6 q).of (fun a k hk => f4 a k (by omega)), fun i hi => by rw [f4 _ _ (by omega), f4 _ _ (by omega)]; exact y7 i hi, fun i hi => by rw [f4 _ _ (by omega)]; exact y8 i hi⟩, fun S hm => ?_⟩
    have h := hmm S hm
    rw [hg] at h
    obtain ⟨S3, e3, h14, ⟨k1, k2, k3⟩, c9, c0, c1, c2, c3, c4⟩ := h
    have g : ∀ a k, ¬ ((a = 47 ∧ (k = 11 ∨ k = 14 ∨ k = 23 ∨ k = 24 ∨ k = 25 ∨ k = 26 ∨ k = 29 ∨ k = 30 ∨ k = 31)) ∨ a = 56 ∨ a = 57 ∨ a = 65) → S3 a k = S a k := fun a k hk => fr_X7_text a k hk rfl _ S3 e3
    obtain ⟨m1, m2, m3, m4, m5, m6, m7, m8, m9⟩ := hm
    exact ⟨S3, e3, m1.of (fun a k hk => g a k (by omega)), txM_nw hx.2.2.1 m2 k1 k2 c9 c0 c1 c2 c4, h14, tm0 _ k3, by rw [g _ _ (by omega), m5], fun q => (m6 q).of (fun k => g _ _ (by omega)) (fun k => g _ _ (by omega)), fun i hi => by rw [g _ _ (by omega), g _ _ (by omega)]; exact m7 i hi, fun i hi => by rw [g _ _ (by omega)]; exact m8 i hi, m9.of (fun k => g _ _ (by omega))⟩

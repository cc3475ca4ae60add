-- text(): the class reads by the grammar
theorem c_expect {B : Nat → Nat} {z q j : Nat} {W : List Nat} {s : zMem} (h : cOk B z W q s) (hj : j < 256) : ∃ S, f_X2_expect (nI j) s = some ((), S) ∧ (tkK B z q = j → cOk B z W (tkE B z q) S) ∧ (tkK B z q ≠ j → cF B z (tkB B z q) S) := by
  unfold f_X2_expect
  have e := c_kd h j hj
  by_cases c : tkK B z q = j
  · rw [if_pos (by rw [e]; exact c)]
    obtain ⟨S, e1, o1⟩ := c_read h
    rw [e1, bd_s]
    exact ⟨S, rfl, fun _ => o1, fun r => absurd c r⟩
  · rw [if_neg (by rw [e]; exact c)]
    obtain ⟨S, e1, o1⟩ := c_fail h
    rw [e1, bd_s]
    exact ⟨S, rfl, fun r => absurd r c, fun _ => o1⟩
theorem f_expect {B : Nat → Nat} {z f j : Nat} {s : zMem} (h : cF B z f s) (hj : j < 256) (hj1 : j ≠ 1) : ∃ S, f_X2_expect (nI j) s = some ((), S) ∧ cF B z f S := by
  unfold f_X2_expect
  have e : ¬ s 5 7 = nI j := by
    rw [h.2.1, show (1 : Int32) = nI 1 from rfl]
    intro q
    have := (nI_eq (a := 1) (b := j) (by omega) (by omega)).mp q
    omega
  rw [if_neg e]
  obtain ⟨S, e1, o1⟩ := f_fail h
  rw [e1, bd_s]
  exact ⟨S, rfl, o1⟩
theorem cOk.fr {B : Nat → Nat} {z q : Nat} {W : List Nat} {s S : zMem} (h : cOk B z W q s) (hf : ∀ a k, a ≠ 8 → S a k = s a k) : cOk B z W q S := by
  obtain ⟨t, hq, hl, h1, h2, h3, h4, h5, h6, h7⟩ := h
  exact ⟨t.of (hf _ _ (by omega)) (fun i _ => hf _ _ (by omega)), hq, hl, by rw [hf _ _ (by omega), h1], by rw [hf _ _ (by omega), h2], by rw [hf _ _ (by omega), h3], fun r => by rw [hf _ _ (by omega), h4 r], by rw [hf _ _ (by omega), h5], by rw [hf _ _ (by omega), h6], fun i hi => by rw [hf _ _ (by omega), h7 i hi]⟩
theorem cF.fr {B : Nat → Nat} {z f : Nat} {s S : zMem} (h : cF B z f s) (hf : ∀ a k, a ≠ 8 → S a k = s a k) : cF B z f S := by
  obtain ⟨t, h1, h2, h3, m, h4, h5⟩ := h
  exact ⟨t.of (hf _ _ (by omega)) (fun i _ => hf _ _ (by omega)), by rw [hf _ _ (by omega), h1], by rw [hf _ _ (by omega), h2], h3, m, h4, by rw [hf _ _ (by omega), h5]⟩
theorem c_part {B : Nat → Nat} {z q p n : Nat} {W : List Nat} {s : zMem} {c : zMem → Option (Int32 × zMem)} (h : cOk B z W q s) (hl : W.length ≤ q) (hp : p < 3) : ∃ S, f_X2_readText_21 c (n + 1) (nI p) s = f_X2_readText_21 c n (nI (p + 1)) S ∧ (match grP B z p q with
    | .error f => cF B z f S
    | .ok (q1, D) => cOk B z (W ++ D) q1 S ∧ S 8 p = nI (W ++ D).length) ∧ ∀ k, k ≠ p → S 8 k = s 8 k := by
  have hq := h.2.1
  have hz := h.1.2.1
  have ht := tk_end (B := B) hq
  have hp4 : (4 : Int32) + nI p = nI (4 + p) := nI_add 4 p
  rw [f_X2_readText_21, if_neg (show ¬ (3 : Int32) ≤ nI p from nI_ge (a := p) (b := 3) hp (by omega)), hp4]
  obtain ⟨S1, e1, y1, n1⟩ := c_expect h (j := 4 + p) (by omega)
  rw [e1, bd_s]
  have f1 : ∀ k, S1 8 k = s 8 k := fun k => fr_X2_expect 8 k (by omega) rfl _ S1 e1
  have fin : ∀ S3 : zMem, (∃ m, m ≤ 160 ∧ S3 5 3 = nI m) → ∃ S, (gd (zib (nI p) 3) <| nm (zUp S3 8 (zix (nI p)) (S3 5 3)) fun s14 => nm (nI p + 1) fun x15 => f_X2_readText_21 c n x15 s14) = f_X2_readText_21 c n (nI (p + 1)) S ∧ (∀ a k, a ≠ 8 → S a k = S3 a k) ∧ S 8 p = S3 5 3 ∧ ∀ k, k ≠ p → S 8 k = S3 8 k := by
    intro S3 _
    rw [gd_t (zib_nI hp (by decide)), nm_eq, nm_eq, nI_1, zix_nI (by omega)]
    exact ⟨_, rfl, fun a k ha => zUp_off (by omega), zUp_hit _ _ _ _, fun k hk => zUp_off (by omega)⟩
  have bad : ∀ f, cF B z f S1 → ∃ S, (bd (f_rd 60 0 0 S1) fun _ s11 => bd (f_X2_expect 59 s11) fun _ s13 => gd (zib (nI p) 3) <| nm (zUp s13 8 (zix (nI p)) (s13 5 3)) fun s14 => nm (nI p + 1) fun x15 => f_X2_readText_21 c n x15 s14) = f_X2_readText_21 c n (nI (p + 1)) S ∧ cF B z f S ∧ ∀ k, k ≠ p → S 8 k = s 8 k := by
    intro f hf
    obtain ⟨S2, e2, o2⟩ := rd_fail 60 0 0 S1 (by omega) (by omega) hf
    rw [e2, bd_s]
    have f2 : ∀ k, S2 8 k = S1 8 k := fun k => fr_rd 8 k (by omega) rfl _ S2 e2
    obtain ⟨S3, e3, o3⟩ := f_expect o2 (j := 59) (by omega) (by omega)
    have f3 : ∀ k, S3 8 k = S2 8 k := fun k => fr_X2_expect 8 k (by omega) rfl _ S3 e3
    rw [show (59 : Int32) = nI 59 from rfl, e3, bd_s]
    obtain ⟨S, e4, g1, g2, g3⟩ := fin S3 o3.2.2.2.2
    exact ⟨S, e4, o3.fr g1, fun k hk => by rw [g3 k hk, f3, f2, f1]⟩
  unfold grP
  by_cases k1 : tkK B z q = 4 + p
  · rw [if_pos k1]
    have o1 := y1 k1
    obtain ⟨S2, e2, o2⟩ := rd_gr 60 0 0 (tkE B z q) W S1 (by omega) (by omega) (by omega) (by omega) o1
    rw [show nI 0 = (0 : Int32) from rfl] at e2
    have f2 : ∀ k, S2 8 k = S1 8 k := fun k => fr_rd 8 k (by omega) rfl _ S2 e2
    unfold grE
    cases hg : gr B z 60 0 0 (tkE B z q) with
    | error f =>
      rw [hg] at o2
      rw [e2, bd_s]
      obtain ⟨S3, e3, o3⟩ := f_expect o2 (j := 59) (by omega) (by omega)
      have f3 : ∀ k, S3 8 k = S2 8 k := fun k => fr_X2_expect 8 k (by omega) rfl _ S3 e3
      rw [show (59 : Int32) = nI 59 from rfl, e3, bd_s]
      obtain ⟨S, e4, g1, g2, g3⟩ := fin S3 o3.2.2.2.2
      exact ⟨S, e4, o3.fr g1, fun k hk => by rw [g3 k hk, f3, f2, f1]⟩
    | ok x =>
      obtain ⟨q1, D⟩ := x
      rw [hg] at o2
      have o2' : cOk B z (W ++ D) q1 S2 := o2
      rw [e2, bd_s]
      obtain ⟨S3, e3, y3, n3⟩ := c_expect o2' (j := 59) (by omega)
      have f3 : ∀ k, S3 8 k = S2 8 k := fun k => fr_X2_expect 8 k (by omega) rfl _ S3 e3
      rw [show (59 : Int32) = nI 59 from rfl, e3, bd_s]
      dsimp only
      by_cases k59 : tkK B z q1 = 59
      · rw [if_pos k59]
        have o3 := y3 k59
        obtain ⟨S, e4, g1, g2, g3⟩ := fin S3 ⟨_, o3.2.2.1, o3.2.2.2.2.2.2.2.2.1⟩
        exact ⟨S, e4, ⟨o3.fr g1, by rw [g2]; exact o3.2.2.2.2.2.2.2.2.1⟩, fun k hk => by rw [g3 k hk, f3, f2, f1]⟩
      · rw [if_neg k59]
        have o3 := n3 k59
        obtain ⟨S, e4, g1, g2, g3⟩ := fin S3 o3.2.2.2.2
        exact ⟨S, e4, o3.fr g1, fun k hk => by rw [g3 k hk, f3, f2, f1]⟩
  · rw [if_neg k1]
    obtain ⟨S, e4, o4, g4⟩ := bad _ (n1 k1)
    exact ⟨S, e4, o4, g4⟩
theorem f_part {B : Nat → Nat} {z p n f : Nat} {s : zMem} {c : zMem → Option (Int32 × zMem)} (h : cF B z f s) (hp : p < 3) : ∃ S, f_X2_readText_21 c (n + 1) (nI p) s = f_X2_readText_21 c n (nI (p + 1)) S ∧ cF B z f S := by
  have hp4 : (4 : Int32) + nI p = nI (4 + p) := nI_add 4 p
  rw [f_X2_readText_21, if_neg (show ¬ (3 : Int32) ≤ nI p from nI_ge (a := p) (b := 3) hp (by omega)), hp4]
  obtain ⟨S1, e1, o1⟩ := f_expect h (j := 4 + p) (by omega) (by omega)
  rw [e1, bd_s]
  obtain ⟨S2, e2, o2⟩ := rd_fail 60 0 0 S1 (by omega) (by omega) o1
  rw [e2, bd_s]
  obtain ⟨S3, e3, o3⟩ := f_expect o2 (j := 59) (by omega) (by omega)
  rw [show (59 : Int32) = nI 59 from rfl, e3, bd_s, gd_t (zib_nI hp (by decide)), nm_eq, nm_eq, nI_1, zix_nI (by omega)]
  exact ⟨_, rfl, o3.fr (fun a k ha => zUp_off (by omega))⟩
theorem c_readText {B : Nat → Nat} {z : Nat} {s : zMem} (h : tpC B z s) : match grX B z with
    | .error f => ∃ S, f_X2_readText s = some (nI f, S) ∧ f ≤ 160
    | .ok (D0, D1, D2) => ∃ S, f_X2_readText s = some (-1, S) ∧ S 8 0 = nI D0.length ∧ S 8 1 = nI (D0 ++ D1).length ∧ S 8 2 = nI (D0 ++ D1 ++ D2).length ∧ (∀ i, i < (D0 ++ D1 ++ D2).length → S 7 i = encC ((D0 ++ D1 ++ D2).getD i 0)) := by
  have hz := h.2.1
  unfold f_X2_readText
  rw [nm_eq, nm_eq, nm_eq]
  have off : ∀ a k, ¬ (a = 5 ∧ (k = 5 ∨ k = 3 ∨ k = 9)) → zUp (zUp (zUp s 5 5 0) 5 3 0) 5 9 (-1) a k = s a k := fun a k hk => by rw [zUp_off (by omega), zUp_off (by omega), zUp_off (by omega)]
  have t0 : tpC B z (zUp (zUp (zUp s 5 5 0) 5 3 0) 5 9 (-1)) := h.of (off _ _ (by omega)) (fun i _ => off _ _ (by omega))
  obtain ⟨S0, e0, g1, g2, g3, g4⟩ := c_tok (q := 0) t0 (by omega) (by rw [zUp_off (by omega), zUp_off (by omega), zUp_hit]; rfl)
  have f0 : ∀ a k, ¬ (a = 5 ∧ (k = 5 ∨ k = 6 ∨ k = 7 ∨ k = 8)) → S0 a k = zUp (zUp (zUp s 5 5 0) 5 3 0) 5 9 (-1) a k := fun a k hk => fr_X2_readToken a k hk rfl _ S0 e0
  have o0 : cOk B z [] 0 S0 := ⟨t0.of (f0 _ _ (by omega)) (fun i _ => f0 _ _ (by omega)), by omega, by simp, g1, g2, g3, g4, by rw [f0 _ _ (by omega), zUp_hit], by rw [f0 _ _ (by omega), zUp_off (by omega), zUp_hit]; rfl, fun i hi => by simp at hi⟩
  rw [e0, bd_s]
  have fend : ∀ {f : Nat} {c : zMem → Option (Int32 × zMem)} {n : Nat} {S : zMem}, cF B z f S → (c = fun s16 => bd (f_X2_expect 0 s16) fun _ s18 => some (s18 5 9, s18)) → ∃ T, f_X2_readText_21 c (n + 1) (nI 3) S = some (nI f, T) ∧ f ≤ 160 := by
    intro f c n S o hc
    rw [f_X2_readText_21, if_pos (by decide), hc]
    obtain ⟨T, e, oT⟩ := f_expect o (j := 0) (by omega) (by omega)
    rw [show nI 0 = (0 : Int32) from rfl] at e
    refine ⟨T, ?_, oT.2.2.2.1⟩
    show bd (f_X2_expect 0 S) _ = _
    rw [e, bd_s, oT.2.2.1]
  generalize hc : (fun s16 => bd (f_X2_expect 0 s16) fun _ s18 => some (s18 5 9, s18)) = c
  have hc' := hc.symm
  rw [show zN = 3996 + 1 + 1 + 1 + 1 from rfl, show (0 : Int32) = nI 0 from rfl]
  obtain ⟨S1, e1, r1, k1⟩ := c_part (p := 0) (n := 3996 + 1 + 1 + 1) (c := c) o0 (by simp) (by omega)
  rw [e1]
  unfold grX
  cases hg1 : grP B z 0 0 with
  | error f =>
    rw [hg1] at r1
    obtain ⟨S2, e2, o2⟩ := f_part (p := 1) (n := 3996 + 1 + 1) (c := c) r1 (by omega)
    obtain ⟨S3, e3, o3⟩ := f_part (p := 2) (n := 3996 + 1) (c := c) o2 (by omega)
    obtain ⟨S4, e4, h4⟩ := fend (n := 3996) o3 hc'
    exact ⟨S4, by rw [e2, e3, e4], h4⟩
  | ok x =>
    obtain ⟨q1, D0⟩ := x
    rw [hg1] at r1
    have l1 := grP_len (B := B) (by omega) hg1
    dsimp only at r1
    rw [List.nil_append] at r1
    obtain ⟨o1, w1⟩ := r1
    obtain ⟨S2, e2, r2, k2⟩ := c_part (p := 1) (n := 3996 + 1 + 1) (c := c) o1 (by omega) (by omega)
    dsimp only
    cases hg2 : grP B z 1 q1 with
    | error f =>
      rw [hg2] at r2
      obtain ⟨S3, e3, o3⟩ := f_part (p := 2) (n := 3996 + 1) (c := c) r2 (by omega)
      obtain ⟨S4, e4, h4⟩ := fend (n := 3996) o3 hc'
      exact ⟨S4, by rw [e2, e3, e4], h4⟩
    | ok x =>
      obtain ⟨q2, D1⟩ := x
      rw [hg2] at r2
      have l2 := grP_len (B := B) l1.2 hg2
      obtain ⟨o2, w2⟩ := r2
      obtain ⟨S3, e3, r3, k3⟩ := c_part (p := 2) (n := 3996 + 1) (c := c) o2 (by simp only [List.length_append]; omega) (by omega)
      dsimp only
      cases hg3 : grP B z 2 q2 with
      | error f =>
        rw [hg3] at r3
        obtain ⟨S4, e4, h4⟩ := fend (n := 3996) r3 hc'
        exact ⟨S4, by rw [e2, e3, e4], h4⟩
      | ok x =>
        obtain ⟨q3, D2⟩ := x
        rw [hg3] at r3
        obtain ⟨o3, w3⟩ := r3
        dsimp only
        rw [e2, e3, f_X2_readText_21, if_pos (show (3 : Int32) ≤ nI (2 + 1) by decide), hc']
        obtain ⟨S4, e4, y4, n4⟩ := c_expect o3 (j := 0) (by omega)
        have f4 : ∀ k, S4 8 k = S3 8 k := fun k => fr_X2_expect 8 k (by omega) rfl _ S4 e4
        rw [show nI 0 = (0 : Int32) from rfl] at e4
        by_cases k0 : tkK B z q3 = 0
        · rw [if_pos k0]
          have o4 := y4 k0
          refine ⟨S4, ?_, by rw [f4, k3 0 (by omega), k2 0 (by omega), w1], by rw [f4, k3 1 (by omega), w2], by rw [f4, w3], o4.2.2.2.2.2.2.2.2.2⟩
          show bd (f_X2_expect 0 S3) _ = _
          rw [e4, bd_s, o4.2.2.2.2.2.2.2.1]
        · rw [if_neg k0]
          have o4 := n4 k0
          refine ⟨S4, ?_, o4.2.2.2.1⟩
          show bd (f_X2_expect 0 S3) _ = _
          rw [e4, bd_s, o4.2.2.1]
-- the model
def mW (B : Nat → Nat) (z K : Nat) (W : List Nat) (q : Nat) (s : zMem) : Prop := tpM B z s ∧ wdM s ∧ q ≤ z ∧ s 47 23 = nI q ∧ s 47 14 = nI K ∧ K < 6 ∧ s 47 31 = nI W.length ∧ W.length ≤ q ∧ ∀ i, i < W.length → s 56 (200 * K + i) = nI (W.getD i 0)
theorem tw_mem {f : Nat → Bool} {v : Nat} : ∀ H : List Nat, v ∈ H.takeWhile f → f v = true := by
  intro H
  induction H with
  | nil => intro h; cases h
  | cons a t ih =>
    intro h
    rw [List.takeWhile_cons] at h
    by_cases c : f a = true
    · rw [if_pos c] at h
      rcases List.mem_cons.mp h with rfl | h
      · exact c
      · exact ih h
    · rw [if_neg c] at h
      cases h
theorem mW.fr {B : Nat → Nat} {z K q : Nat} {W : List Nat} {s S : zMem} (h : mW B z K W q s) (hf : ∀ a k, a ≠ 57 → ¬ (a = 47 ∧ (k = 24 ∨ k = 25 ∨ k = 26)) → S a k = s a k) : mW B z K W q S := by
  obtain ⟨t, w, hq, h1, h2, h3, h4, h5, h6⟩ := h
  exact ⟨t.of (hf _ _ (by omega) (by omega)) (fun i _ => hf _ _ (by omega) (by omega)), w.of (fun k => hf _ _ (by omega) (by omega)), hq, by rw [hf _ _ (by omega) (by omega), h1], by rw [hf _ _ (by omega) (by omega), h2], h3, by rw [hf _ _ (by omega) (by omega), h4], h5, fun i hi => by rw [hf _ _ (by omega) (by omega), h6 i hi]⟩
theorem m_wnext {B : Nat → Nat} {z K q : Nat} {W : List Nat} {s : zMem} (h : mW B z K W q s) : ∃ S, f_X7_next s = some ((), S) ∧ mW B z K W (tkE B z q) S ∧ S 47 24 = nI (tkB B z q) ∧ S 47 25 = tkM (tkK B z q) ∧ (4 ≤ tkK B z q ∧ tkK B z q ≤ 6 → S 47 26 = nI (tkK B z q - 4)) ∧ ∀ k, S 57 k = s 57 k := by
  obtain ⟨t, w, hq, h1, h2, h3, h4, h5, h6⟩ := h
  obtain ⟨S, e, g1, g2, g3, g4, g5⟩ := m_tok t w hq h1
  have off : ∀ a k, ¬ (a = 47 ∧ (k = 23 ∨ k = 24 ∨ k = 25 ∨ k = 26)) → S a k = s a k := fun a k hk => fr_X7_next a k hk rfl _ S e
  have ht := tk_end (B := B) hq
  exact ⟨S, e, ⟨t.of (off _ _ (by omega)) (fun i _ => off _ _ (by omega)), w.of (fun k => off _ _ (by omega)), ht.1, g1, by rw [off _ _ (by omega), h2], h3, by rw [off _ _ (by omega), h4], by omega, fun i hi => by rw [off _ _ (by omega), h6 i hi]⟩, g2, g3, g5, fun k => off _ _ (by omega)⟩
theorem m_eRead {B : Nat → Nat} {z K q : Nat} {W : List Nat} {s : zMem} (h : mW B z K W q s) : match grE B z q with
    | .error f => ∃ S, f_X7_eRead s = some (0, S) ∧ S 47 24 = nI f
    | .ok (q1, D) => ∃ S, f_X7_eRead s = some (1, S) ∧ mW B z K (W ++ D) q1 S := by
  obtain ⟨t, w, hq, h1, h2, h3, h4, h5, h6⟩ := h
  have hz := t.2.1
  unfold f_X7_eRead
  rw [nm_eq, nm_eq]
  have off : ∀ a k, ¬ (a = 47 ∧ (k = 29 ∨ k = 30)) → zUp (zUp s 47 29 0) 47 30 0 a k = s a k := fun a k hk => by rw [zUp_off (by omega), zUp_off (by omega)]
  have l0 : mLp B z K [] W q (zUp (zUp s 47 29 0) 47 30 0) := ⟨t.of (off _ _ (by omega)) (fun i _ => off _ _ (by omega)), w.of (fun k => off _ _ (by omega)), hq, by rw [off _ _ (by omega), h1], ⟨by rw [off _ _ (by omega), h2], h3, by rw [zUp_off (by omega), zUp_hit]; rfl, by rw [zUp_hit]; rfl, by rw [off _ _ (by omega), h4], trivial, (fun v hv => by cases hv), fun i hi => by rw [off _ _ (by omega), h6 i hi], by simp; omega⟩, by simp; omega⟩
  generalize hc : (fun s48 => bd (f_X7_unwinds 1 s48) fun _ s50 => if (s50 47 29) = 0 then some ((1 : Int32), s50) else some (0, s50)) = c
  have cont : ∀ (H W : List Nat) (q : Nat) (S : zMem), mNx B z K H W q S → ∃ S', c S = some (if d1 H = [] then 1 else 0, S') ∧ mNx B z K (d1 H) (W ++ t1 H) q S' := by
    intro H W q S x
    have hlen := x.2.2.2.2.2.2.2.2.2.2.2.2.2.2.2
    obtain ⟨S2, e2, m2, f2⟩ := m_unw (l := 1) (by omega) (by omega) zN H W S x.2.2.2.2.2.2.2 (by unfold zN; omega)
    have e2' : f_X7_unwinds 1 S = some ((), S2) := e2
    have m2' : mSt K (d1 H) (W ++ t1 H) S2 := m2
    have x2 := x.fr m2' (fun a k g1 g2 _ => f2 a k g1 g2)
    have hlen2 := m2'.2.2.2.2.2.2.2.2
    rw [← hc]
    show ∃ S', bd (f_X7_unwinds 1 S) _ = _ ∧ _
    rw [e2', bd_s, m2'.2.2.1]
    have e0 : (nI (d1 H).length = 0) = ((d1 H).length = 0) := nI_lit 0 (by omega) (by omega)
    by_cases cH : d1 H = []
    · rw [if_pos (by rw [e0, cH]; rfl), if_pos cH]
      exact ⟨S2, rfl, x2⟩
    · rw [if_neg (by rw [e0]; exact fun r => cH (List.length_eq_zero_iff.mp r)), if_neg cH]
      exact ⟨S2, rfl, x2⟩
  have hcz : ∀ (H W : List Nat) (q : Nat) (S : zMem), mNx B z K H W q S → 0 ∈ H → ∃ S', c S = some (0, S') ∧ S' 47 24 = nI (tkB B z q) := by
    intro H W q S x h0
    obtain ⟨S', e, x2⟩ := cont H W q S x
    have hne : d1 H ≠ [] := by
      intro r
      have := List.takeWhile_append_dropWhile (p := fun u => decide (1 ≤ rk u)) (l := H)
      have r' : H.dropWhile (fun u => decide (1 ≤ rk u)) = [] := r
      rw [r', List.append_nil] at this
      rw [← this] at h0
      have h2 := tw_mem H h0
      exact absurd h2 (by decide)
    rw [if_neg hne] at e
    exact ⟨S', e, x2.2.2.2.1⟩
  have hs := (sim hz hcz 60).1 0 0 [] W q zN 1 _ (by omega) (by omega) rfl (by omega) (fun a t e => by cases e) l0 (by unfold zN; omega) (fun _ => rfl) (fun r => by omega)
  unfold grE
  cases hg : gr B z 60 0 0 q with
  | error f => rw [hg] at hs; exact hs
  | ok x =>
    obtain ⟨q1, D⟩ := x
    rw [hg] at hs
    obtain ⟨D1, E, S2, n2, m2, e2, hn2, l2, he, hD, hst⟩ := hs
    have l1 := gr_lenG (n := 60) (k := 0) (o := 0) _ _ _ hq hg
    rw [List.append_nil] at l2
    have w2 : d1 D1 = [] ∧ t1 D1 = D1 := by
      have hall : ∀ v, v ∈ D1 → (fun u => decide (1 ≤ rk u)) v = true := fun v hv => decide_eq_true (hD v hv).1
      have := tw_app D1 [] hall
      rw [List.append_nil] at this
      exact ⟨this.2, by have h3 := this.1; rw [List.takeWhile_nil, List.append_nil] at h3; exact h3⟩
    rw [e2]
    dsimp only
    cases n2 with
    | zero => unfold zN at hn2; omega
    | succ n2 =>
      by_cases k59 : tkK B z q1 = 59
      · rw [if_pos k59]
        obtain ⟨S3, e3, x3⟩ := st_end (c := c) (n := n2) (m := m2) l2 k59
        obtain ⟨S4, e4, x4⟩ := cont _ _ _ _ x3
        rw [if_pos w2.1] at e4
        rw [w2.1, w2.2] at x4
        have ht1 := tk_end (B := B) l1.2
        have hlt := ht1.2.2.1 (by omega)
        obtain ⟨y1, y2, y3, y4, y5, y6, y7, y8⟩ := x4
        refine ⟨S4, by rw [e3, e4], y1, y2, ht1.1, y3, y8.1, h3, ?_, ?_, ?_⟩
        · rw [y8.2.2.2.2.1, ← he, List.append_assoc]
        · simp only [List.length_append]
          omega
        · intro i hi
          rw [← he, ← List.append_assoc] at hi ⊢
          exact y8.2.2.2.2.2.2.2.1 i hi
      · rw [if_neg k59]
        by_cases k41 : tkK B z q1 = 41
        · obtain ⟨sc, _⟩ := st_close (c := c) (n := n2) (m := m2) l2 k41
          exact sc w2.1
        · exact st_stop (H := []) (by rw [List.append_nil]; exact l2) hst k59 k41
theorem mW.inv {B : Nat → Nat} {z K q : Nat} {W : List Nat} {s : zMem} (h : mW B z K W q s) : pI K (s 56) s := ⟨h.2.2.2.2.1, h.2.2.2.2.2.1, ⟨W.length, by have := h.1.2.1; have := h.2.2.1; have := h.2.2.2.2.2.2.2.1; omega, h.2.2.2.2.2.2.1⟩, fun _ _ => rfl⟩
theorem m_part {B : Nat → Nat} {z K q p n : Nat} {W : List Nat} {s : zMem} {c : Int32 → zMem → Option (Int32 × zMem)} (h : mW B z K W q s) (hp : p < 3) : ∃ S, (match grP B z p q with
    | .error f => f_X7_text_26 c (n + 1) 1 (nI p) s = f_X7_text_26 c n 0 (nI (p + 1)) S ∧ S 47 24 = nI f
    | .ok (q1, D) => f_X7_text_26 c (n + 1) 1 (nI p) s = f_X7_text_26 c n 1 (nI (p + 1)) S ∧ mW B z K (W ++ D) q1 S ∧ S 57 (4 * K + p) = nI W.length) ∧ (∀ k, k ≠ 4 * K + p → S 57 k = s 57 k) ∧ pI K (s 56) S := by
  have hq := h.2.2.1
  have hK := h.2.2.2.2.2.1
  obtain ⟨S1, e1, o1, b1, k1, v1, f1⟩ := m_wnext h
  have i1 : pI K (s 56) S1 := iv_X7_next h.inv _ _ e1
  have hkd := tkK_le (B := B) (z := z) (q := q) (fun i hi => (h.1.2.2 i hi).2)
  obtain ⟨a1, a2, a3, _⟩ := tkM_at _ hkd
  have h14 : ∀ S : zMem, S 47 14 = nI K → (4 : Int32) * S 47 14 + nI p = nI (4 * K + p) := fun S e => by rw [e, show (4 : Int32) = nI 4 from rfl, nI_mul, nI_add]
  have e14 := o1.2.2.2.2.1
  have i2 : pI K (s 56) (zUp S1 57 (4 * K + p) (S1 47 31)) := i1.up (by omega)
  have off2 : ∀ k, k ≠ 4 * K + p → zUp S1 57 (4 * K + p) (S1 47 31) 57 k = s 57 k := fun k hk => by rw [zUp_off (by omega), f1]
  have bad : ∀ c2, f_X7_text_60 c2 (nI p) 0 S1 = c2 0 (nI (p + 1)) (zUp S1 57 (4 * K + p) (S1 47 31)) := by
    intro c2
    unfold f_X7_text_60
    rw [h14 S1 e14, gd_t (zib_nI (by omega) (by decide)), zix_nI (by omega), nm_eq, if_pos rfl, nm_eq, nI_1]
  rw [f_X7_text_26, if_neg (show ¬ (3 : Int32) ≤ nI p from nI_ge (a := p) (b := 3) hp (by omega)), if_neg (by decide), e1, bd_s, k1]
  unfold grP
  by_cases k4 : tkK B z q = 4 + p
  · rw [if_pos k4, if_pos (a3.mpr (by omega)), v1 (by omega), if_pos (by rw [k4, Nat.add_sub_cancel_left])]
    unfold f_X7_text_60
    rw [h14 S1 e14, gd_t (zib_nI (by omega) (by decide)), zix_nI (by omega), nm_eq, if_neg (by decide)]
    have o2 : mW B z K W (tkE B z q) (zUp S1 57 (4 * K + p) (S1 47 31)) := o1.fr (fun a k ha _ => zUp_off (by omega))
    have hr := m_eRead o2
    cases hg : grE B z (tkE B z q) with
    | error f =>
      rw [hg] at hr
      obtain ⟨S3, e3, b3⟩ := hr
      have i3 := iv_X7_eRead i2 _ _ e3
      have f3 : ∀ k, S3 57 k = zUp S1 57 (4 * K + p) (S1 47 31) 57 k := fun k => fr_X7_eRead 57 k (by omega) rfl _ S3 e3
      rw [e3, bd_s, if_pos rfl, nm_eq, nI_1]
      exact ⟨S3, ⟨rfl, b3⟩, fun k hk => by rw [f3, off2 k hk], i3⟩
    | ok x =>
      obtain ⟨q1, D⟩ := x
      rw [hg] at hr
      obtain ⟨S3, e3, o3⟩ := hr
      have i3 := iv_X7_eRead i2 _ _ e3
      have f3 : ∀ k, S3 57 k = zUp S1 57 (4 * K + p) (S1 47 31) 57 k := fun k => fr_X7_eRead 57 k (by omega) rfl _ S3 e3
      rw [e3, bd_s, if_neg (by decide), nm_eq, nI_1]
      exact ⟨S3, ⟨rfl, o3, by rw [f3, zUp_hit]; exact o1.2.2.2.2.2.2.1⟩, fun k hk => by rw [f3, off2 k hk], i3⟩
  · rw [if_neg k4]
    by_cases k46 : 4 ≤ tkK B z q ∧ tkK B z q ≤ 6
    · have e26 : ¬ nI (tkK B z q - 4) = nI p := fun r => by
        have := (nI_eq (by omega) (by omega)).mp r
        omega
      rw [if_pos (a3.mpr k46), v1 k46, if_neg e26]
      unfold f_X7_text_59
      rw [bad]
      exact ⟨_, ⟨rfl, by rw [zUp_off (by omega)]; exact b1⟩, off2, i2⟩
    · rw [if_neg (fun r => k46 (a3.mp r))]
      unfold f_X7_text_59
      rw [bad]
      exact ⟨_, ⟨rfl, by rw [zUp_off (by omega)]; exact b1⟩, off2, i2⟩
def keepsM (K : Nat) (s S : zMem) : Prop := (∀ k, k < 200 * K → S 56 k = s 56 k) ∧ (∀ k, k < 4 * K → S 57 k = s 57 k) ∧ S 47 11 = 0
theorem m_textend {K f : Nat} {x : Int32} {s S : zMem} (hK : K < 6) (hx : x = 0) (h24 : S 47 24 = nI f) (hi : pI K (s 56) S) (h57 : ∀ k, k < 4 * K → S 57 k = s 57 k) : ∃ T, f_X7_text_122 x S = some (-100 - nI f, T) ∧ T 47 14 = nI K ∧ keepsM K s T := by
  obtain ⟨h1, _, ⟨n, _, h2⟩, h3⟩ := hi
  unfold f_X7_text_122
  have e : (4 : Int32) * nI K + 3 = nI (4 * K + 3) := by rw [show (4 : Int32) = nI 4 from rfl, show (3 : Int32) = nI 3 from rfl, nI_mul, nI_add]
  rw [h1, e, gd_t (zib_nI (by omega) (by decide)), zix_nI (by omega), nm_eq, nm_eq, if_pos hx, zUp_off (by omega), zUp_off (by omega), h24]
  exact ⟨_, rfl, by rw [zUp_off (by omega), zUp_off (by omega), h1], fun k hk => by rw [zUp_off (by omega), zUp_off (by omega), h3 k hk], fun k hk => by rw [zUp_off (by omega), zUp_off (by omega), h57 k hk], zUp_hit _ _ _ _⟩
theorem m_text {B : Nat → Nat} {z K : Nat} {s : zMem} (t : tpM B z s) (w : wdM s) (hK : K < 6) (h14 : s 47 14 = nI K) : match grX B z with
    | .error f => ∃ S, f_X7_text s = some (-100 - nI f, S) ∧ S 47 14 = nI K ∧ keepsM K s S
    | .ok (D0, D1, D2) => ∃ S, f_X7_text s = some (nI K, S) ∧ S 47 14 = nI (K + 1) ∧ keepsM K s S ∧ S 57 (4 * K) = 0 ∧ S 57 (4 * K + 1) = nI D0.length ∧ S 57 (4 * K + 2) = nI (D0 ++ D1).length ∧ S 57 (4 * K + 3) = nI (D0 ++ D1 ++ D2).length ∧ (D0 ++ D1 ++ D2).length ≤ 160 ∧ ∀ i, i < (D0 ++ D1 ++ D2).length → S 56 (200 * K + i) = nI ((D0 ++ D1 ++ D2).getD i 0) := by
  have hz := t.2.1
  unfold f_X7_text
  have e6 : ¬ s 47 14 = 6 := by
    rw [h14]
    intro r
    have := (nI_eq (a := K) (b := 6) (by omega) (by omega)).mp r
    omega
  rw [if_neg e6, nm_eq, nm_eq]
  have off : ∀ a k, ¬ (a = 47 ∧ (k = 23 ∨ k = 31)) → zUp (zUp s 47 23 0) 47 31 0 a k = s a k := fun a k hk => by rw [zUp_off (by omega), zUp_off (by omega)]
  have o0 : mW B z K [] 0 (zUp (zUp s 47 23 0) 47 31 0) := ⟨t.of (off _ _ (by omega)) (fun i _ => off _ _ (by omega)), w.of (fun k => off _ _ (by omega)), by omega, by rw [zUp_off (by omega), zUp_hit]; rfl, by rw [off _ _ (by omega), h14], hK, by rw [zUp_hit]; rfl, by simp, fun i hi => by simp at hi⟩
  have g56 : ∀ k, zUp (zUp s 47 23 0) 47 31 0 56 k = s 56 k := fun k => off _ _ (by omega)
  have g57 : ∀ k, zUp (zUp s 47 23 0) 47 31 0 57 k = s 57 k := fun k => off _ _ (by omega)
  generalize zUp (zUp s 47 23 0) 47 31 0 = s0 at o0 g56 g57
  have tr : ∀ S : zMem, pI K (s0 56) S → pI K (s 56) S := fun S h => ⟨h.1, h.2.1, h.2.2.1, fun k hk => by rw [h.2.2.2 k hk, g56]⟩
  generalize hc : (fun (x31 : Int32) s32 => f_X7_text_101 x31 s32) = c
  have bad : ∀ {p n f : Nat} {S : zMem}, p ≤ 3 → S 47 24 = nI f → pI K (s 56) S → (∀ k, k < 4 * K → S 57 k = s 57 k) → ∃ T, f_X7_text_26 c (n + 1) 0 (nI p) S = some (-100 - nI f, T) ∧ T 47 14 = nI K ∧ keepsM K s T := by
    intro p n f S hp h24 hi h57
    have e : f_X7_text_26 c (n + 1) 0 (nI p) S = f_X7_text_122 0 S := by
      rw [f_X7_text_26, ← hc]
      have e2 : f_X7_text_101 0 S = f_X7_text_122 0 S := by unfold f_X7_text_101; rw [if_pos rfl]
      by_cases c3 : (3 : Int32) ≤ nI p
      · rw [if_pos c3]; exact e2
      · rw [if_neg c3, if_pos rfl]; exact e2
    rw [e]
    exact m_textend hK rfl h24 hi h57
  rw [show zN = 3996 + 1 + 1 + 1 + 1 from rfl, show (0 : Int32) = nI 0 from rfl]
  obtain ⟨S1, r1, k1, i1⟩ := m_part (p := 0) (n := 3996 + 1 + 1 + 1) (c := c) o0 (by omega)
  have j1 : ∀ k, k < 4 * K → S1 57 k = s 57 k := fun k hk => by rw [k1 k (by omega), g57]
  unfold grX
  cases hg1 : grP B z 0 0 with
  | error f =>
    rw [hg1] at r1
    obtain ⟨e1, b1⟩ := r1
    obtain ⟨T, eT, hT⟩ := bad (p := 0 + 1) (n := 3996 + 1 + 1) (by omega) b1 (tr _ i1) j1
    exact ⟨T, by rw [e1, eT], hT⟩
  | ok x =>
    obtain ⟨q1, D0⟩ := x
    rw [hg1] at r1
    dsimp only at r1
    rw [List.nil_append] at r1
    obtain ⟨e1, o1, w1⟩ := r1
    obtain ⟨S2, r2, k2, i2⟩ := m_part (p := 1) (n := 3996 + 1 + 1) (c := c) o1 (by omega)
    have i2' : pI K (s 56) S2 := ⟨i2.1, i2.2.1, i2.2.2.1, fun k hk => by rw [i2.2.2.2 k hk]; exact (tr _ i1).2.2.2 k hk⟩
    have j2 : ∀ k, k < 4 * K → S2 57 k = s 57 k := fun k hk => by rw [k2 k (by omega), j1 k hk]
    dsimp only
    cases hg2 : grP B z 1 q1 with
    | error f =>
      rw [hg2] at r2
      obtain ⟨e2, b2⟩ := r2
      obtain ⟨T, eT, hT⟩ := bad (p := 1 + 1) (n := 3996 + 1) (by omega) b2 i2' j2
      exact ⟨T, by rw [e1, e2, eT], hT⟩
    | ok x =>
      obtain ⟨q2, D1⟩ := x
      rw [hg2] at r2
      obtain ⟨e2, o2, w2⟩ := r2
      obtain ⟨S3, r3, k3, i3⟩ := m_part (p := 2) (n := 3996 + 1) (c := c) o2 (by omega)
      have i3' : pI K (s 56) S3 := ⟨i3.1, i3.2.1, i3.2.2.1, fun k hk => by rw [i3.2.2.2 k hk]; exact i2'.2.2.2 k hk⟩
      have j3 : ∀ k, k < 4 * K → S3 57 k = s 57 k := fun k hk => by rw [k3 k (by omega), j2 k hk]
      dsimp only
      cases hg3 : grP B z 2 q2 with
      | error f =>
        rw [hg3] at r3
        obtain ⟨e3, b3⟩ := r3
        obtain ⟨T, eT, hT⟩ := bad (p := 2 + 1) (n := 3996) (by omega) b3 i3' j3
        exact ⟨T, by rw [e1, e2, e3, eT], hT⟩
      | ok x =>
        obtain ⟨q3, D2⟩ := x
        rw [hg3] at r3
        obtain ⟨e3, o3, w3⟩ := r3
        obtain ⟨S4, e4, o4, b4, k4, v4, f4⟩ := m_wnext o3
        have i4 : pI K (S3 56) S4 := iv_X7_next o3.inv _ _ e4
        have i4' : pI K (s 56) S4 := ⟨i4.1, i4.2.1, i4.2.2.1, fun k hk => by rw [i4.2.2.2 k hk]; exact i3'.2.2.2 k hk⟩
        have j4 : ∀ k, k < 4 * K → S4 57 k = s 57 k := fun k hk => by rw [f4, j3 k hk]
        have hkd := tkK_le (B := B) (z := z) (q := q3) (fun i hi => (o3.1.2.2 i hi).2)
        obtain ⟨_, _, _, _, _, _, _, _, _, _, _, _, _, _, _, a0⟩ := tkM_at _ hkd
        have ef : f_X7_text_26 c (3996 + 1) 1 (nI (2 + 1)) S3 = (if (S4 47 25) = 0 then f_X7_text_121 1 S4 else f_X7_text_121 0 S4) := by
          rw [f_X7_text_26, if_pos (by decide), ← hc]
          show f_X7_text_101 1 S3 = _
          unfold f_X7_text_101
          rw [if_neg (by decide), e4, bd_s]
        dsimp only
        rw [e1, e2, e3, ef, k4]
        by_cases c0 : tkK B z q3 = 0
        · rw [if_pos c0, if_pos (a0.mpr c0)]
          obtain ⟨t4, w4', hq4, h23, h414, _, h431, hl4, h456⟩ := o4
          have e : (4 : Int32) * nI K + 3 = nI (4 * K + 3) := by rw [show (4 : Int32) = nI 4 from rfl, show (3 : Int32) = nI 3 from rfl, nI_mul, nI_add]
          unfold f_X7_text_121 f_X7_text_122
          rw [h414, e, gd_t (zib_nI (by omega) (by decide)), zix_nI (by omega), nm_eq, nm_eq, if_neg (by decide), nm_eq, zUp_hit, zUp_off (by omega), zUp_off (by omega), h414, nI_1, show nI (K + 1) - 1 = nI K by rw [← zn1, nI_sub (by omega), Nat.add_sub_cancel]]
          have o5 : ∀ a k, ¬ (a = 47 ∧ (k = 14 ∨ k = 11)) → ¬ (a = 57 ∧ k = 4 * K + 3) → zUp (zUp (zUp S4 57 (4 * K + 3) (S4 47 31)) 47 11 0) 47 14 (nI (K + 1)) a k = S4 a k := fun a k g1 g2 => by rw [zUp_off (by omega), zUp_off (by omega), zUp_off (by omega)]
          refine ⟨_, rfl, zUp_hit _ _ _ _, ⟨fun k hk => by rw [o5 _ _ (by omega) (by omega)]; exact i4'.2.2.2 k hk, fun k hk => by rw [o5 _ _ (by omega) (by omega)]; exact j4 k hk, by rw [zUp_off (by omega), zUp_hit]⟩, ?_, ?_, ?_, ?_, by omega, fun i hi => by rw [o5 _ _ (by omega) (by omega)]; exact h456 i hi⟩
          · rw [o5 _ _ (by omega) (by omega), f4, k3 _ (by omega), k2 _ (by omega)]; exact w1
          · rw [o5 _ _ (by omega) (by omega), f4, k3 _ (by omega)]; exact w2
          · rw [o5 _ _ (by omega) (by omega), f4]; exact w3
          · rw [zUp_off (by omega), zUp_off (by omega), zUp_hit]; exact h431
        · rw [if_neg c0, if_neg (fun r => c0 (a0.mp r))]
          unfold f_X7_text_121
          exact m_textend hK rfl b4 i4' j4

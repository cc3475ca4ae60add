-- the model reads by the grammar: its held signs
def rk (v : Nat) : Nat := if v = 0 then 0 else if v = 11 then 1 else if v = 12 then 2 else if v = 13 then 3 else if v ≤ 15 then 4 else if v ≤ 17 then 5 else if v = 18 then 6 else 7
def sgOk (v : Nat) : Prop := v = 0 ∨ (11 ≤ v ∧ v ≤ 19)
def isOp (v : Nat) : Bool := decide (v = 0) || decide (v = 13) || decide (v = 19)
def cntO : List Nat → Nat
  | [] => 0
  | a :: t => cntO t + if isOp a = true then 1 else 0
def hdS (s : zMem) : List Nat → Prop
  | [] => True
  | a :: t => s 65 t.length = nI a ∧ hdS s t
theorem hdS.of {s S : zMem} (h : ∀ k, S 65 k = s 65 k) : ∀ {H : List Nat}, hdS s H → hdS S H := by
  intro H
  induction H with
  | nil => intro _; trivial
  | cons a t ih => intro q; exact ⟨by rw [h]; exact q.1, ih q.2⟩
theorem hdS_up {k : Nat} {s : zMem} {v : Int32} : ∀ {t : List Nat}, hdS s t → t.length ≤ k → hdS (zUp s 65 k v) t := by
  intro t
  induction t with
  | nil => intro _ _; trivial
  | cons a t ih =>
    intro h hk
    simp only [List.length_cons] at hk
    exact ⟨by rw [zUp_off (by omega)]; exact h.1, ih h.2 (by omega)⟩
theorem m_rank {v : Nat} (h : sgOk v) (s : zMem) : f_X7_rank (nI v) s = some (nI (rk v), s) := by
  rcases (by unfold sgOk at h; omega : v = 0 ∨ v = 11 ∨ v = 12 ∨ v = 13 ∨ v = 14 ∨ v = 15 ∨ v = 16 ∨ v = 17 ∨ v = 18 ∨ v = 19) with rfl | rfl | rfl | rfl | rfl | rfl | rfl | rfl | rfl | rfl <;> rfl
theorem rk_le (v : Nat) : rk v ≤ 7 := by
  unfold rk
  repeat' split
  all_goals omega
def mSt (K : Nat) (H W : List Nat) (s : zMem) : Prop := s 47 14 = nI K ∧ K < 6 ∧ s 47 29 = nI H.length ∧ s 47 30 = nI (cntO H) ∧ s 47 31 = nI W.length ∧ hdS s H ∧ (∀ v, v ∈ H → sgOk v) ∧ (∀ i, i < W.length → s 56 (200 * K + i) = nI (W.getD i 0)) ∧ W.length + H.length ≤ 160
theorem mSt.of {K : Nat} {H W : List Nat} {s S : zMem} (h : mSt K H W s) (hf : ∀ a k, (a = 47 ∧ (k = 14 ∨ k = 29 ∨ k = 30 ∨ k = 31)) ∨ a = 56 ∨ a = 65 → S a k = s a k) : mSt K H W S := by
  obtain ⟨h1, h2, h3, h4, h5, h6, h7, h8, h9⟩ := h
  exact ⟨by rw [hf _ _ (by omega), h1], h2, by rw [hf _ _ (by omega), h3], by rw [hf _ _ (by omega), h4], by rw [hf _ _ (by omega), h5], h6.of (fun k => hf _ _ (by omega)), h7, fun i hi => by rw [hf _ _ (by omega), h8 i hi], h9⟩
theorem m_puts {K v : Nat} {H W : List Nat} {s : zMem} (h : mSt K H W s) (hl : W.length + H.length < 160) : ∃ S, f_X7_puts (nI v) s = some ((), S) ∧ mSt K H (W ++ [v]) S ∧ ∀ a k, ¬ (a = 47 ∧ k = 31) → a ≠ 56 → S a k = s a k := by
  obtain ⟨h1, h2, h3, h4, h5, h6, h7, h8, h9⟩ := h
  have e : (200 : Int32) * nI K + nI W.length = nI (200 * K + W.length) := by rw [show (200 : Int32) = nI 200 from rfl, nI_mul, nI_add]
  unfold f_X7_puts
  rw [h1, h5, e, gd_t (zib_nI (by omega) (by decide)), nm_eq, zix_nI (by omega), zUp_off (by omega), h5, nI_1, nm_eq]
  have off : ∀ a k, ¬ (a = 47 ∧ k = 31) → a ≠ 56 → zUp (zUp s 56 (200 * K + W.length) (nI v)) 47 31 (nI (W.length + 1)) a k = s a k := fun a k g1 g2 => by rw [zUp_off (by omega), zUp_off (by omega)]
  refine ⟨_, rfl, ⟨by rw [off _ _ (by omega) (by omega), h1], h2, by rw [off _ _ (by omega) (by omega), h3], by rw [off _ _ (by omega) (by omega), h4], by rw [zUp_hit]; simp, h6.of (fun k => off _ _ (by omega) (by omega)), h7, fun i hi => ?_, by simp; omega⟩, off⟩
  simp only [List.length_append, List.length_cons, List.length_nil] at hi
  rw [zUp_off (by omega)]
  by_cases c : i = W.length
  · subst c
    rw [zUp_hit, List.getD_eq_getElem?_getD, List.getElem?_append_right (Nat.le_refl _)]
    simp
  · rw [zUp_off (by omega), h8 i (by omega), List.getD_eq_getElem?_getD, List.getD_eq_getElem?_getD, List.getElem?_append_left (by omega)]
theorem m_holds {K v : Nat} {H W : List Nat} {s : zMem} (h : mSt K H W s) (hv : sgOk v) (hl : W.length + H.length < 160) : ∃ S, f_X7_holds (nI v) s = some ((), S) ∧ (∀ c, s 47 30 = nI c → c = cntO H → True) ∧ (∀ S', (∀ a k, ¬ (a = 47 ∧ k = 30) → S' a k = S a k) → S' 47 30 = nI (cntO (v :: H)) → mSt K (v :: H) W S') ∧ ∀ a k, ¬ (a = 47 ∧ k = 29) → a ≠ 65 → S a k = s a k := by
  obtain ⟨h1, h2, h3, h4, h5, h6, h7, h8, h9⟩ := h
  unfold f_X7_holds
  rw [h3, gd_t (zib_nI (by omega) (by decide)), nm_eq, zix_nI (by omega), zUp_off (by omega), h3, nI_1, nm_eq]
  have off : ∀ a k, ¬ (a = 47 ∧ k = 29) → a ≠ 65 → zUp (zUp s 65 H.length (nI v)) 47 29 (nI (H.length + 1)) a k = s a k := fun a k g1 g2 => by rw [zUp_off (by omega), zUp_off (by omega)]
  refine ⟨_, rfl, fun _ _ _ => trivial, fun S' g1 g2 => ⟨by rw [g1 _ _ (by omega), off _ _ (by omega) (by omega), h1], h2, by rw [g1 _ _ (by omega), zUp_hit]; rfl, g2, by rw [g1 _ _ (by omega), off _ _ (by omega) (by omega), h5], ⟨by rw [g1 _ _ (by omega), zUp_off (by omega), zUp_hit], ?_⟩, ?_, fun i hi => by rw [g1 _ _ (by omega), off _ _ (by omega) (by omega), h8 i hi], by simp only [List.length_cons]; omega⟩, off⟩
  · exact hdS.of (fun k => by rw [g1 _ _ (by omega), zUp_off (by omega)]) (hdS_up h6 (Nat.le_refl _))
  · intro u hu
    rcases List.mem_cons.mp hu with rfl | hu
    · exact hv
    · exact h7 u hu
theorem m_unw {K l : Nat} (hl1 : 1 ≤ l) (hl8 : l < 8) : ∀ (n : Nat) (H W : List Nat) (s : zMem), mSt K H W s → H.length < n → ∃ S, f_X7_unwinds_0 n (nI l) s = some ((), S) ∧ mSt K (H.dropWhile (fun v => decide (l ≤ rk v))) (W ++ H.takeWhile (fun v => decide (l ≤ rk v))) S ∧ ∀ a k, ¬ (a = 47 ∧ (k = 29 ∨ k = 30 ∨ k = 31)) → a ≠ 56 → S a k = s a k := by
  intro n
  induction n with
  | zero => intro H W s _ h; omega
  | succ n ih =>
    intro H W s h hn
    obtain ⟨h1, h2, h3, h4, h5, h6, h7, h8, h9⟩ := id h
    rw [f_X7_unwinds_0, h3, zif_le0 (by omega)]
    cases H with
    | nil =>
      rw [if_pos (show ([] : List Nat).length = 0 from rfl)]
      refine ⟨s, rfl, ?_, fun _ _ _ _ => rfl⟩
      simpa using h
    | cons a t =>
      simp only [List.length_cons] at hn h9 h3 ⊢
      have em : nI (t.length + 1) - 1 = nI t.length := by rw [← zn1, nI_sub (by omega), show t.length + 1 - 1 = t.length by omega]
      have ha := h7 a (List.mem_cons_self ..)
      have hr := rk_le a
      rw [if_neg (by omega), em, gd_t (zib_nI (by omega) (by decide)), zix_nI (by omega), h6.1, m_rank ha, bd_s]
      by_cases c : l ≤ rk a
      · have ho : isOp a = true ↔ a = 13 ∨ a = 19 := by
          have : a ≠ 0 := by
            intro q
            rw [q] at c
            have : rk 0 = 0 := rfl
            omega
          unfold isOp
          simp [this]
        have hcn : cntO (a :: t) = cntO t + if isOp a = true then 1 else 0 := rfl
        have e1 : (a :: t).dropWhile (fun v => decide (l ≤ rk v)) = t.dropWhile (fun v => decide (l ≤ rk v)) := by rw [List.dropWhile_cons, if_pos (decide_eq_true c)]
        have e2 : (a :: t).takeWhile (fun v => decide (l ≤ rk v)) = a :: t.takeWhile (fun v => decide (l ≤ rk v)) := by rw [List.takeWhile_cons, if_pos (decide_eq_true c)]
        have go : ∀ s7 : zMem, s7 47 30 = nI (cntO t) → (∀ x k, ¬ (x = 47 ∧ k = 30) → s7 x k = zUp s 47 29 (nI t.length) x k) → ∃ S9, f_X7_puts (nI a) s7 = some ((), S9) ∧ ∃ S, f_X7_unwinds_0 n (nI l) S9 = some ((), S) ∧ mSt K ((a :: t).dropWhile (fun v => decide (l ≤ rk v))) (W ++ (a :: t).takeWhile (fun v => decide (l ≤ rk v))) S ∧ ∀ a k, ¬ (a = 47 ∧ (k = 29 ∨ k = 30 ∨ k = 31)) → a ≠ 56 → S a k = s a k := by
          intro s7 g30 gf
          have m7 : mSt K t W s7 := by
            refine ⟨by rw [gf _ _ (by omega), zUp_off (by omega), h1], h2, by rw [gf _ _ (by omega), zUp_hit], g30, by rw [gf _ _ (by omega), zUp_off (by omega), h5], h6.2.of (fun k => by rw [gf _ _ (by omega), zUp_off (by omega)]), fun v hv => h7 v (List.mem_cons_of_mem _ hv), fun i hi => by rw [gf _ _ (by omega), zUp_off (by omega), h8 i hi], by omega⟩
          obtain ⟨S9, p1, p2, p3⟩ := m_puts (v := a) m7 (by omega)
          obtain ⟨S, q1, q2, q3⟩ := ih t (W ++ [a]) S9 p2 (by omega)
          refine ⟨S9, p1, S, q1, ?_, fun x k hx hx2 => by rw [q3 x k hx hx2, p3 x k (by omega) hx2, gf x k (by omega), zUp_off (by omega)]⟩
          rw [e1, e2]
          rw [List.append_assoc] at q2
          exact q2
        rw [if_neg (nI_nlt c (by omega)), h3, em, nm_eq, zUp_hit, gd_t (zib_nI (by omega) (by decide)), zix_nI (by omega), zUp_off (by omega), h6.1, nm_eq, zUp_off (by omega), h4, hcn]
        by_cases c13 : a = 13
        · rw [if_pos (by rw [c13]; rfl), nm_eq, if_pos (ho.mpr (Or.inl c13)), ← zn1, nI_sub (by omega), Nat.add_sub_cancel]
          obtain ⟨S9, p1, p2⟩ := go (zUp (zUp s 47 29 (nI t.length)) 47 30 (nI (cntO t))) (zUp_hit _ _ _ _) (fun x k hx => zUp_off (by omega))
          rw [p1, bd_s]
          exact p2
        · rw [if_neg (n13k a (by unfold sgOk at ha; omega) c13)]
          by_cases c19 : a = 19
          · rw [if_pos (by rw [c19]; rfl), nm_eq, if_pos (ho.mpr (Or.inr c19)), ← zn1, nI_sub (by omega), Nat.add_sub_cancel]
            obtain ⟨S9, p1, p2⟩ := go (zUp (zUp s 47 29 (nI t.length)) 47 30 (nI (cntO t))) (zUp_hit _ _ _ _) (fun x k hx => zUp_off (by omega))
            rw [p1, bd_s]
            exact p2
          · rw [if_neg (n19k a (by unfold sgOk at ha; omega) c19), nm_eq, if_neg (fun r => by have := ho.mp r; omega), Nat.add_zero, ← zn0, nI_sub (by omega), Nat.sub_zero]
            obtain ⟨S9, p1, p2⟩ := go (zUp (zUp s 47 29 (nI t.length)) 47 30 (nI (cntO t))) (zUp_hit _ _ _ _) (fun x k hx => zUp_off (by omega))
            rw [p1, bd_s]
            exact p2
      · rw [if_pos (nI_lt (by omega) (by omega))]
        refine ⟨s, rfl, ?_, fun _ _ _ _ => rfl⟩
        rw [List.dropWhile_cons, if_neg (by simpa using c), List.takeWhile_cons, if_neg (by simpa using c), List.append_nil]
        exact h

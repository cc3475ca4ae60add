-- the model's loop keeps the grammar: the claim of a level
def topLt (b : Nat) (H : List Nat) : Prop := ∀ a t, H = a :: t → rk a < b
def hrK (k : Nat) : Nat := if k = 0 then 1 else if k = 1 then 2 else if k = 2 then 4 else if k = 3 then 5 else if k = 4 then 6 else 7
def drK (k : Nat) : Nat := if k = 0 then 1 else if k = 1 then 2 else if k = 2 then 3 else if k = 3 then 5 else 6
abbrev d5 (H : List Nat) : List Nat := H.dropWhile (fun u => decide (5 ≤ rk u))
def stopK (k t : Nat) (D1 : List Nat) : Prop := (k = 0 → t ≠ 7) ∧ (k ≤ 1 → t ≠ 8) ∧ (k ≤ 3 → t ≠ 43 ∧ t ≠ 45) ∧ (k ≤ 4 → t ≠ 42) ∧ (k ≤ 2 → t = 60 ∨ t = 61 → tk4 (d5 D1) = true)
def simR (B : Nat → Nat) (z K : Nat) (c : zMem → Option (Int32 × zMem)) (k : Nat) (H W : List Nat) (q n : Nat) (L : Option (Int32 × zMem)) (r : zGr) : Prop := match r with
  | .error f => ∃ S, L = some (0, S) ∧ S 47 24 = nI f
  | .ok (q1, D) => ∃ D1 E S n2 m2, L = f_X7_eRead_14 c n2 0 m2 S ∧ n ≤ n2 + (q1 - q) ∧ mLp B z K (D1 ++ H) (W ++ E) q1 S ∧ E ++ D1 = D ∧ (∀ v, v ∈ D1 → drK k ≤ rk v ∧ rk v < 7) ∧ stopK k (tkK B z q1) D1
theorem tw_app {f : Nat → Bool} : ∀ (D1 H : List Nat), (∀ v, v ∈ D1 → f v = true) → (D1 ++ H).takeWhile f = D1 ++ H.takeWhile f ∧ (D1 ++ H).dropWhile f = H.dropWhile f := by
  intro D1
  induction D1 with
  | nil => intro H _; exact ⟨rfl, rfl⟩
  | cons a t ih =>
    intro H h
    have ha := h a (List.mem_cons_self ..)
    have := ih H (fun v hv => h v (List.mem_cons_of_mem _ hv))
    rw [List.cons_append, List.takeWhile_cons, List.dropWhile_cons, if_pos ha, if_pos ha, this.1, this.2]
    exact ⟨rfl, rfl⟩
theorem top_w {b : Nat} {H : List Nat} (h : topLt b H) : H.takeWhile (fun u => decide (b ≤ rk u)) = [] ∧ H.dropWhile (fun u => decide (b ≤ rk u)) = H := by
  cases H with
  | nil => exact ⟨rfl, rfl⟩
  | cons a t =>
    have := h a t rfl
    rw [List.takeWhile_cons, List.dropWhile_cons, if_neg (by simp; omega), if_neg (by simp; omega)]
    exact ⟨rfl, rfl⟩
theorem tk4_app {D1 : List Nat} {c : Nat} (h : tk4 (d5 D1) = true) : tk4 (d5 (D1 ++ [c])) = true := by
  induction D1 with
  | nil => cases h
  | cons a t ih =>
    unfold d5 at h ih ⊢
    rw [List.cons_append, List.dropWhile_cons]
    rw [List.dropWhile_cons] at h
    by_cases q : 5 ≤ rk a
    · rw [if_pos (decide_eq_true q)] at h ⊢
      exact ih h
    · rw [if_neg (by simpa using q)] at h ⊢
      exact h
theorem opK_sg {k t c : Nat} (h : opK k t = some c) : sgn t = some c ∧ lvB c = drK k ∧ hrK k = drK k ∧ rk c ≠ 4 ∧ rk c < hrK (k + 1) ∧ drK k ≤ rk c ∧ rk c < 7 ∧ (k = 0 ∨ k = 1 ∨ k = 3 ∨ k = 4) ∧ (c ≤ 12 ↔ k ≤ 1) ∧ isOp c = false := by
  unfold opK at h
  by_cases k0 : k = 0
  · subst k0
    rw [if_pos rfl] at h
    split at h
    · rename_i e; injection h with h; subst h; subst e; decide
    · cases h
  · rw [if_neg k0] at h
    by_cases k1 : k = 1
    · subst k1
      rw [if_pos rfl] at h
      split at h
      · rename_i e; injection h with h; subst h; subst e; decide
      · cases h
    · rw [if_neg k1] at h
      by_cases k3 : k = 3
      · subst k3
        rw [if_pos rfl] at h
        split at h
        · rename_i e; injection h with h; subst h; subst e; decide
        · split at h
          · rename_i e; injection h with h; subst h; subst e; decide
          · cases h
      · rw [if_neg k3] at h
        by_cases k4 : k = 4
        · subst k4
          rw [if_pos rfl] at h
          split at h
          · rename_i e; injection h with h; subst h; subst e; decide
          · cases h
        · rw [if_neg k4] at h
          cases h
theorem stop_no {k t : Nat} {D1 : List Nat} (hk : k = 0 ∨ k = 1 ∨ k = 3 ∨ k = 4) (h : stopK (k + 1) t D1) (hn : opK k t = none) : stopK k t D1 := by
  obtain ⟨h1, h2, h3, h4, h5⟩ := h
  unfold opK at hn
  rcases hk with rfl | rfl | rfl | rfl
  · have : t ≠ 7 := by intro q; subst q; simp at hn
    exact ⟨fun _ => this, fun _ => h2 (by omega), fun _ => h3 (by omega), fun _ => h4 (by omega), fun _ => h5 (by omega)⟩
  · have : t ≠ 8 := by intro q; subst q; simp at hn
    exact ⟨fun q => by omega, fun _ => this, fun _ => h3 (by omega), fun _ => h4 (by omega), fun _ => h5 (by omega)⟩
  · have a : t ≠ 43 := by intro q; subst q; simp at hn
    have b : t ≠ 45 := by intro q; subst q; simp at hn
    exact ⟨fun q => by omega, fun q => by omega, fun _ => ⟨a, b⟩, fun _ => h4 (by omega), fun q => by omega⟩
  · have a : t ≠ 42 := by intro q; subst q; simp at hn
    exact ⟨fun q => by omega, fun q => by omega, fun q => by omega, fun _ => a, fun q => by omega⟩
theorem sim_chn {B : Nat → Nat} {z K k : Nat} {c : zMem → Option (Int32 × zMem)} {g : Nat → zGr} {H : List Nat} {N : Nat} {L : Option (Int32 × zMem)} {W : List Nat} {q0 : Nat}
    (hH : topLt (hrK k) H) (hk : k = 0 ∨ k = 1 ∨ k = 3 ∨ k = 4)
    (hgl : ∀ q q1 D, q ≤ z → g q = .ok (q1, D) → q + D.length ≤ q1 ∧ q1 ≤ z)
    (hg : ∀ (a : Nat) (W : List Nat) (q n : Nat) (s : zMem), rk a < hrK (k + 1) → isOp a = false → (a ≤ 12 ↔ k ≤ 1) → mLp B z K (a :: H) W q s → z - q < n → simR B z K c (k + 1) (a :: H) W q n (f_X7_eRead_14 c n 1 (if a ≤ 12 then 1 else 0) s) (g q)) :
    ∀ (f q : Nat) (D1 E : List Nat) (n : Nat) (m : Int32) (s : zMem), mLp B z K (D1 ++ H) (W ++ E) q s → z - q < n → z - q ≤ f → q0 ≤ q → N ≤ n + (q - q0) → L = f_X7_eRead_14 c n 0 m s → (∀ v, v ∈ D1 → drK k ≤ rk v ∧ rk v < 7) → stopK (k + 1) (tkK B z q) D1 → simR B z K c k H W q0 N L (chn B z g k f q (E ++ D1)) := by
  intro f
  induction f with
  | zero =>
    intro q D1 E n m s h hn hf hq0 hN hL hD hs
    have kd0 : tkK B z q = 0 := by
      have hb := (run_b isBl B z q).1
      have hBB : run isBl B z q = tkB B z q := rfl
      unfold tkK
      rw [if_pos (by omega)]
    refine ⟨D1, E, s, n, m, hL, hN, h, rfl, hD, ?_⟩
    rw [kd0]
    exact ⟨fun _ => by omega, fun _ => by omega, fun _ => by omega, fun _ => by omega, fun _ q => by omega⟩
  | succ f ih =>
    intro q D1 E n m s h hn hf hq0 hN hL hD hs
    unfold chn
    cases hop : opK k (tkK B z q) with
    | none => exact ⟨D1, E, s, n, m, hL, hN, h, rfl, hD, stop_no hk hs hop⟩
    | some cc =>
      obtain ⟨hsg, hlv, hhr, h4, hr1, hr2, hr3, _, h12, hio⟩ := opK_sg hop
      have hq := h.2.2.1
      have ht := tk_end (B := B) hq
      have hlt := ht.2.2.1 (opK_ne hop).1
      cases n with
      | zero => omega
      | succ n =>
        obtain ⟨_, so⟩ := st_op (c := c) (n := n) (m := m) h hsg
        rw [hlv] at so
        have hall : ∀ v, v ∈ D1 → (fun u => decide (drK k ≤ rk u)) v = true := fun v hv => decide_eq_true (hD v hv).1
        obtain ⟨w1, w2⟩ := tw_app D1 H hall
        rw [hhr] at hH
        obtain ⟨w3, w4⟩ := top_w hH
        rw [w1, w2, w3, w4, List.append_nil, decide_eq_false h4, Bool.false_and] at so
        obtain ⟨S1, e1, o1⟩ := so rfl
        have hsub := hg cc (W ++ E ++ D1) (tkE B z q) n S1 hr1 hio h12 o1 (by omega)
        rw [← e1, ← hL] at hsub
        dsimp only
        cases hgq : g (tkE B z q) with
        | error f => rw [hgq] at hsub; exact hsub
        | ok p =>
          obtain ⟨q2, D2⟩ := p
          rw [hgq] at hsub
          obtain ⟨D', E', S2, n2, m2, e2, hn2, o2, he, hD2, hs2⟩ := hsub
          have h2 := hgl _ _ _ ht.1 hgq
          have hl : E ++ D1 ++ D2 ++ [cc] = (E ++ D1 ++ E') ++ (D' ++ [cc]) := by rw [← he]; simp
          dsimp only
          rw [hl]
          refine ih q2 (D' ++ [cc]) (E ++ D1 ++ E') n2 m2 S2 ?_ (by omega) (by omega) (by omega) (by omega) e2 (fun v hv => ?_) ?_
          · rw [show (D' ++ [cc]) ++ H = D' ++ (cc :: H) by simp, show W ++ (E ++ D1 ++ E') = W ++ E ++ D1 ++ E' by simp]
            exact o2
          · rcases List.mem_append.mp hv with hv | hv
            · refine ⟨?_, (hD2 v hv).2⟩
              have := (hD2 v hv).1
              refine Nat.le_trans ?_ this
              rcases hk with rfl | rfl | rfl | rfl <;> decide
            · rw [List.mem_singleton.mp hv]; exact ⟨hr2, hr3⟩
          · exact ⟨hs2.1, hs2.2.1, hs2.2.2.1, hs2.2.2.2.1, fun a b => tk4_app (hs2.2.2.2.2 a b)⟩

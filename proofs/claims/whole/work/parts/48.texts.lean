-- texts: P t p is what part p of text t is read into, the values ahead of what is done with them (codes: below 6 a name, 11 .. 19 what is done, 100000 + v a number)
abbrev zP : Type := Nat → Nat → List Nat
def encC (v : Nat) : Int32 := if 100000 ≤ v then nI (v - 100000) else if v < 6 then -1 - nI v else if v = 11 then -27 else if v = 12 then -26 else if v = 13 then -12 else if v = 14 then -24 else if v = 15 then -25 else if v = 16 then -21 else if v = 17 then -22 else if v = 18 then -23 else -11
def op1 (v : Nat) (a : Int32) : Int32 := if v = 13 then (if a = 0 then 1 else 0) else -a
def op2 (v : Nat) (a b : Int32) : Int32 := if v = 11 then (if a = 0 then (if b = 0 then 0 else 1) else 1) else if v = 12 then (if a = 0 then 0 else if b = 0 then 0 else 1) else if v = 14 then (if b ≤ a then 0 else 1) else if v = 15 then (if a = b then 1 else 0) else if v = 16 then a + b else if v = 17 then a - b else a * b
def isNm (v : Nat) : Prop := v < 6
def isNo (v : Nat) : Prop := 100000 ≤ v ∧ v ≤ 109999
def isO1 (v : Nat) : Prop := v = 13 ∨ v = 19
def isO2 (v : Nat) : Prop := v = 11 ∨ v = 12 ∨ (14 ≤ v ∧ v ≤ 18)
def tokOk (v : Nat) : Prop := isNm v ∨ isNo v ∨ isO1 v ∨ isO2 v
def ev1 (x : Nat → Int32) (v : Nat) (st : List Int32) : List Int32 := if 100000 ≤ v then nI (v - 100000) :: st else if v < 6 then x v :: st else if v = 13 ∨ v = 19 then op1 v (st.headD 0) :: st.tail else op2 v (st.tail.headD 0) (st.headD 0) :: st.tail.tail
def evS (x : Nat → Int32) : List Nat → List Int32 → List Int32
  | [], st => st
  | v :: r, st => evS x r (ev1 x v st)
def dp1 (v d : Nat) : Option Nat := if 100000 ≤ v then some (d + 1) else if v < 6 then some (d + 1) else if v = 13 ∨ v = 19 then (if 1 ≤ d then some d else none) else if 2 ≤ d then some (d - 1) else none
def dpS : List Nat → Nat → Option Nat
  | [], d => some d
  | v :: r, d => match dp1 v d with
    | some e => dpS r e
    | none => none
def stk (c : Nat) (s : zMem) : List Int32 → Prop
  | [] => True
  | a :: t => s c t.length = a ∧ stk c s t
theorem stk_up {c k : Nat} {s : zMem} {v : Int32} : ∀ {t : List Int32}, stk c s t → t.length ≤ k → stk c (zUp s c k v) t := by
  intro t
  induction t with
  | nil => intro _ _; trivial
  | cons a t ih =>
    intro h hk
    simp only [List.length_cons] at hk
    exact ⟨by rw [zUp_off (by omega)]; exact h.1, ih h.2 (by omega)⟩
theorem stk_push {c : Nat} {s : zMem} {v : Int32} {t : List Int32} (h : stk c s t) : stk c (zUp s c t.length v) (v :: t) := ⟨zUp_hit _ _ _ _, stk_up h (Nat.le_refl _)⟩
theorem cat_no {v : Nat} (h : isNo v) (s : zMem) : f_X0_isOfTwo (encC v) s = some (0, s) ∧ f_X0_isOfOne (encC v) s = some (0, s) ∧ f_X0_isName (encC v) s = some (0, s) ∧ encC v = nI (v - 100000) := by
  obtain ⟨h1, h2⟩ := h
  have e : encC v = nI (v - 100000) := if_pos h1
  have l : ∀ z : Int32, z < 0 → z < nI (v - 100000) := fun z hz => Int32.lt_of_lt_of_le hz (nI_pos' (by omega))
  have n0 : ∀ z : Int32, z < 0 → ¬ nI (v - 100000) = z := fun z hz q => by have := l z hz; rw [q] at this; exact Int32.lt_irrefl this
  refine ⟨?_, ?_, ?_, e⟩
  · unfold f_X0_isOfTwo
    rw [e, if_pos (l _ (by decide))]
  · unfold f_X0_isOfOne
    rw [e, if_neg (n0 _ (by decide)), if_neg (n0 _ (by decide))]
  · unfold f_X0_isName
    rw [e, if_pos (l _ (by decide))]
theorem cat_nm {v : Nat} (h : isNm v) (s : zMem) : f_X0_isOfTwo (encC v) s = some (0, s) ∧ f_X0_isOfOne (encC v) s = some (0, s) ∧ f_X0_isName (encC v) s = some (1, s) ∧ f_X0_ofName (encC v) s = some (nI v, s) := by
  unfold isNm at h
  rcases (by omega : v = 0 ∨ v = 1 ∨ v = 2 ∨ v = 3 ∨ v = 4 ∨ v = 5) with rfl | rfl | rfl | rfl | rfl | rfl <;> exact ⟨rfl, rfl, rfl, rfl⟩
theorem cat_o1 {v : Nat} (h : isO1 v) (a : Int32) (s : zMem) : f_X0_isOfTwo (encC v) s = some (0, s) ∧ f_X0_isOfOne (encC v) s = some (1, s) ∧ f_X0_ofOne (encC v) a s = some (op1 v a, s) := by
  rcases h with rfl | rfl
  · refine ⟨rfl, rfl, ?_⟩
    show (if a = 0 then some ((1 : Int32), s) else some (0, s)) = some (if a = 0 then 1 else 0, s)
    split <;> rfl
  · exact ⟨rfl, rfl, rfl⟩
theorem cat_o2 {v : Nat} (h : isO2 v) (a b : Int32) (s : zMem) : f_X0_isOfTwo (encC v) s = some (1, s) ∧ f_X0_ofTwo (encC v) a b s = some (op2 v a b, s) := by
  rcases (by unfold isO2 at h; omega : v = 11 ∨ v = 12 ∨ v = 14 ∨ v = 15 ∨ v = 16 ∨ v = 17 ∨ v = 18) with rfl | rfl | rfl | rfl | rfl | rfl | rfl
  · refine ⟨rfl, ?_⟩
    show (if a = 0 then (if b = 0 then some ((0 : Int32), s) else some (1, s)) else some (1, s)) = some (if a = 0 then (if b = 0 then 0 else 1) else 1, s)
    split <;> (try split) <;> rfl
  · refine ⟨rfl, ?_⟩
    show (if a = 0 then some ((0 : Int32), s) else if b = 0 then some (0, s) else some (1, s)) = some (if a = 0 then 0 else if b = 0 then 0 else 1, s)
    split <;> (try split) <;> rfl
  · refine ⟨rfl, ?_⟩
    show (if b ≤ a then some ((0 : Int32), s) else some (1, s)) = some (if b ≤ a then 0 else 1, s)
    split <;> rfl
  · refine ⟨rfl, ?_⟩
    show (if a = b then some ((1 : Int32), s) else some (0, s)) = some (if a = b then 1 else 0, s)
    split <;> rfl
  · exact ⟨rfl, rfl⟩
  · exact ⟨rfl, rfl⟩
  · exact ⟨rfl, rfl⟩
theorem two_o2 {v : Nat} (h : isO2 v) (a b : Int32) (s : zMem) : f_X7_two (nI v) a b s = some (op2 v a b, s) := by
  rcases (by unfold isO2 at h; omega : v = 11 ∨ v = 12 ∨ v = 14 ∨ v = 15 ∨ v = 16 ∨ v = 17 ∨ v = 18) with rfl | rfl | rfl | rfl | rfl | rfl | rfl
  · show (if a = 0 then (if b = 0 then some ((0 : Int32), s) else some (1, s)) else some (1, s)) = some (if a = 0 then (if b = 0 then 0 else 1) else 1, s)
    split <;> (try split) <;> rfl
  · show (if a = 0 then some ((0 : Int32), s) else if b = 0 then some (0, s) else some (1, s)) = some (if a = 0 then 0 else if b = 0 then 0 else 1, s)
    split <;> (try split) <;> rfl
  · show (if b ≤ a then some ((0 : Int32), s) else some (1, s)) = some (if b ≤ a then 0 else 1, s)
    split <;> rfl
  · show (if a = b then some ((1 : Int32), s) else some (0, s)) = some (if a = b then 1 else 0, s)
    split <;> rfl
  · rfl
  · rfl
  · rfl
def cdC (s : zMem) (i : Nat) : List Nat → Prop
  | [] => True
  | v :: r => s 2 i = encC v ∧ cdC s (i + 1) r
theorem cdC.of {s S : zMem} (h : ∀ k, S 2 k = s 2 k) : ∀ {l : List Nat} {i : Nat}, cdC s i l → cdC S i l := by
  intro l
  induction l with
  | nil => intro _ _; trivial
  | cons v r ih => intro i q; exact ⟨by rw [h]; exact q.1, ih q.2⟩
theorem dpS_cons {v d r : Nat} {l : List Nat} (h : dpS (v :: l) d = some r) : ∃ e, dp1 v d = some e ∧ dpS l e = some r := by
  unfold dpS at h
  split at h
  · rename_i e he; exact ⟨e, he, h⟩
  · cases h
theorem nI_m2 {a : Nat} (h : 2 ≤ a) : nI a + (-2) = nI (a - 2) := by
  have := @nI_sub a 2 h
  rw [← this, Int32.sub_eq_add_neg]
  rfl
theorem n160 (j : Nat) (h : j < 160) : ¬ ((160 : Int32) ≤ nI j) := nI_ge (b := 160) h (by omega)
theorem n1l (j : Nat) (h : 1 ≤ j) (h2 : j < 2 ^ 31) : ¬ (nI j < (1 : Int32)) := nI_nlt (b := 1) h h2
theorem n2l (j : Nat) (h : 2 ≤ j) (h2 : j < 2 ^ 31) : ¬ (nI j < (2 : Int32)) := nI_nlt (b := 2) h h2
theorem k_eval {a : Nat} (ha : a ≠ 4) {c : Int32 → zMem → Option (Int32 × zMem)} : ∀ (l : List Nat) (n i r : Nat) (st : List Int32) (s : zMem), cdC s i l → (∀ v, v ∈ l → tokOk v) → stk 4 s st → dpS l st.length = some r → st.length + l.length ≤ 160 → i + l.length ≤ 960 → l.length < n → ∃ S, f_X4_valueOf_53 a c n (nI (i + l.length)) (nI st.length) (nI i) s = c (nI r) S ∧ stk 4 S (evS (s a) l st) ∧ (evS (s a) l st).length = r ∧ (∀ q k, q ≠ 4 → S q k = s q k) := by
  intro l
  induction l with
  | nil =>
    intro n i r st s _ _ hs hd _ hi hn
    cases n with
    | zero => simp at hn
    | succ n =>
      rw [f_X4_valueOf_53]
      simp only [List.length_nil, Nat.add_zero] at hi ⊢
      rw [if_pos (nI_le (Nat.le_refl _) (by omega))]
      simp only [dpS, Option.some.injEq] at hd
      rw [hd]
      exact ⟨s, rfl, hs, hd, fun _ _ _ => rfl⟩
  | cons v l ih =>
    intro n i r st s hc ht hs hd hl hi hn
    cases n with
    | zero => simp at hn
    | succ n =>
      simp only [List.length_cons] at hl hi hn ⊢
      obtain ⟨e, hd1, hd2⟩ := dpS_cons hd
      have ht1 := ht v (List.mem_cons_self ..)
      have hti : ∀ u, u ∈ l → tokOk u := fun u hu => ht u (List.mem_cons_of_mem _ hu)
      have xi : zix (nI i) = i := zix_nI (by omega)
      rw [f_X4_valueOf_53, if_neg (nI_ge (by omega) (by omega)), gd_t (zib_nI (by omega) (by decide)), xi, hc.1, nm_eq]
      have step : ∀ (k : Nat) (w : Int32) (t : List Int32), ev1 (s a) v st = w :: t → t.length = k → stk 4 s t → e = k + 1 → k < 160 → ∃ S, f_X4_valueOf_53 a c n (nI (i + (l.length + 1))) (nI (k + 1)) (nI (i + 1)) (zUp s 4 k w) = c (nI r) S ∧ stk 4 S (evS (s a) (v :: l) st) ∧ (evS (s a) (v :: l) st).length = r ∧ (∀ q k, q ≠ 4 → S q k = s q k) := by
        intro k w t he hk hst hek hk1
        subst hk
        have hq := ih n (i + 1) r (w :: t) (zUp s 4 t.length w) (cdC.of (fun k => zUp_off (by omega)) hc.2) hti (stk_push hst) (by rw [List.length_cons, ← hek]; exact hd2) (by
          rw [List.length_cons]
          have : e ≤ st.length + 1 := by
            unfold dp1 at hd1
            split at hd1
            · injection hd1; omega
            · split at hd1
              · injection hd1; omega
              · split at hd1
                · split at hd1
                  · injection hd1; omega
                  · cases hd1
                · split at hd1
                  · injection hd1; omega
                  · cases hd1
          omega) (by omega) (by omega)
        obtain ⟨S, g1, g2, g3, g4⟩ := hq
        have ea : zUp s 4 t.length w a = s a := by funext k; exact zUp_off (by omega)
        rw [ea] at g2 g3
        rw [show i + 1 + l.length = i + (l.length + 1) by omega, List.length_cons] at g1
        refine ⟨S, g1, ?_, ?_, fun q k hq => by rw [g4 q k hq, zUp_off (by omega)]⟩
        · rw [evS, he]; exact g2
        · rw [evS, he]; exact g3
      rcases ht1 with h | h | h | h
      · obtain ⟨q1, q2, q3, q4⟩ := cat_nm h s
        have hv : v < 6 := h
        have ev : ev1 (s a) v st = s a v :: st := by unfold ev1; rw [if_neg (by omega), if_pos hv]
        have he : e = st.length + 1 := by unfold dp1 at hd1; rw [if_neg (by omega), if_pos hv] at hd1; injection hd1; omega
        obtain ⟨S, g⟩ := step st.length _ st ev rfl hs he (by omega)
        refine ⟨S, ?_, g.2⟩
        rw [q1, bd_s, if_pos rfl]
        unfold f_X4_valueOf_116
        rw [q2, bd_s, if_pos rfl]
        unfold f_X4_valueOf_150
        rw [q3, bd_s, if_neg (by decide), q4, bd_s, gd_t (zib_nI (by omega) (by decide)), nm_eq, zix_nI (by omega), if_neg (n160 _ (by omega)), gd_t (zib_nI (by omega) (by decide)), nm_eq, nm_eq, nm_eq, zix_nI (by omega), nI_1, nI_1]
        exact g.1
      · obtain ⟨q1, q2, q3, q4⟩ := cat_no h s
        have hv := h.1
        have ev : ev1 (s a) v st = encC v :: st := by unfold ev1; rw [if_pos hv, q4]
        have he : e = st.length + 1 := by unfold dp1 at hd1; rw [if_pos hv] at hd1; injection hd1; omega
        obtain ⟨S, g⟩ := step st.length _ st ev rfl hs he (by omega)
        refine ⟨S, ?_, g.2⟩
        rw [q1, bd_s, if_pos rfl]
        unfold f_X4_valueOf_116
        rw [q2, bd_s, if_pos rfl]
        unfold f_X4_valueOf_150
        rw [q3, bd_s, if_pos rfl, if_neg (n160 _ (by omega)), gd_t (zib_nI (by omega) (by decide)), nm_eq, nm_eq, nm_eq, zix_nI (by omega), nI_1, nI_1]
        exact g.1
      · have hv : ¬ 100000 ≤ v ∧ ¬ v < 6 := by unfold isO1 at h; omega
        cases st with
        | nil =>
          unfold dp1 at hd1
          rw [if_neg hv.1, if_neg hv.2, if_pos (show v = 13 ∨ v = 19 from h)] at hd1
          simp at hd1
        | cons x t =>
          obtain ⟨q1, q2, q3⟩ := cat_o1 h x s
          have ev : ev1 (s a) v (x :: t) = op1 v x :: t := by unfold ev1; rw [if_neg hv.1, if_neg hv.2, if_pos (show v = 13 ∨ v = 19 from h)]; rfl
          have he : e = t.length + 1 := by
            unfold dp1 at hd1
            rw [if_neg hv.1, if_neg hv.2, if_pos (show v = 13 ∨ v = 19 from h), if_pos (by simp)] at hd1
            simp at hd1
            omega
          simp only [List.length_cons] at hl
          obtain ⟨S, g⟩ := step t.length _ t ev rfl hs.2 he (by omega)
          refine ⟨S, ?_, g.2⟩
          rw [q1, bd_s, if_pos rfl]
          unfold f_X4_valueOf_116
          rw [q2, bd_s, if_neg (by decide), List.length_cons, if_neg (n1l _ (by omega) (by omega)), pk_m1, nm_eq, gd_t (zib_nI (by omega) (by decide)), zix_nI (by omega), hs.1, q3, bd_s, if_neg (n160 _ (by omega)), gd_t (zib_nI (by omega) (by decide)), nm_eq, nm_eq, nm_eq, nI_1, nI_1]
          exact g.1
      · have hv : ¬ 100000 ≤ v ∧ ¬ v < 6 ∧ ¬ (v = 13 ∨ v = 19) := by unfold isO2 at h; omega
        have h2 : 2 ≤ st.length := by
          unfold dp1 at hd1
          rw [if_neg hv.1, if_neg hv.2.1, if_neg hv.2.2] at hd1
          split at hd1
          · assumption
          · cases hd1
        match st, h2 with
        | y :: x :: t, _ =>
          obtain ⟨q1, q2⟩ := cat_o2 h x y s
          have ev : ev1 (s a) v (y :: x :: t) = op2 v x y :: t := by unfold ev1; rw [if_neg hv.1, if_neg hv.2.1, if_neg hv.2.2]; rfl
          have he : e = t.length + 1 := by
            unfold dp1 at hd1
            rw [if_neg hv.1, if_neg hv.2.1, if_neg hv.2.2, if_pos (by simp)] at hd1
            simp at hd1
            omega
          simp only [List.length_cons] at hl
          obtain ⟨S, g⟩ := step t.length _ t ev rfl hs.2.2 he (by omega)
          refine ⟨S, ?_, g.2⟩
          have hy : s 4 (t.length + 1) = y := hs.1
          have hx : s 4 t.length = x := hs.2.1
          rw [q1, bd_s, if_neg (by decide), List.length_cons, List.length_cons, if_neg (n2l _ (by omega) (by omega)), nI_m2 (by omega), show t.length + 1 + 1 - 2 = t.length by omega, nm_eq, gd_t (zib_nI (by omega) (by decide)), nI_1, gd_t (zib_nI (by omega) (by decide)), zix_nI (by omega), zix_nI (by omega), hx, hy, q2, bd_s, if_neg (n160 _ (by omega)), gd_t (zib_nI (by omega) (by decide)), nm_eq, nm_eq, nm_eq, nI_1]
          exact g.1
def cdM (s : zMem) (i : Nat) : List Nat → Prop
  | [] => True
  | v :: r => s 56 i = nI v ∧ cdM s (i + 1) r
theorem cdM.of {s S : zMem} (h : ∀ k, S 56 k = s 56 k) : ∀ {l : List Nat} {i : Nat}, cdM s i l → cdM S i l := by
  intro l
  induction l with
  | nil => intro _ _; trivial
  | cons v r ih => intro i q; exact ⟨by rw [h]; exact q.1, ih q.2⟩
theorem n100k (v : Nat) (h : v < 100000) : ¬ ((100000 : Int32) ≤ nI v) := nI_ge (b := 100000) h (by omega)
theorem n11k (v : Nat) (h : v < 11) : ¬ ((11 : Int32) ≤ nI v) := nI_ge (b := 11) h (by omega)
theorem n100p (v : Nat) (h : 100000 ≤ v) (h2 : v < 2 ^ 31) : (100000 : Int32) ≤ nI v := nI_le (a := 100000) h h2
theorem n11p (v : Nat) (h : 11 ≤ v) (h2 : v < 2 ^ 31) : (11 : Int32) ≤ nI v := nI_le (a := 11) h h2
theorem n13k (v : Nat) (h : v < 2 ^ 31) (h2 : v ≠ 13) : ¬ nI v = (13 : Int32) := fun q => h2 ((nI_eq (b := 13) h (by omega)).mp q)
theorem n19k (v : Nat) (h : v < 2 ^ 31) (h2 : v ≠ 19) : ¬ nI v = (19 : Int32) := fun q => h2 ((nI_eq (b := 19) h (by omega)).mp q)
theorem m_eval {t p m : Nat} (ht6 : t < 6) (hp : p < 3) : ∀ (l : List Nat) (n i r : Nat) (st : List Int32) (s : zMem), s 47 15 = nI t → s 57 (4 * t + p + 1) = nI (i + l.length) → cdM s (200 * t + i) l → (∀ v, v ∈ l → tokOk v) → stk 66 s st → dpS l st.length = some r → r = m + 1 → st.length + l.length ≤ 160 → i + l.length ≤ 160 → l.length < n → ∃ S, f_X7_says_16 n (nI p) (nI st.length) (nI i) s = some (S 66 0, S) ∧ stk 66 S (evS (s 67) l st) ∧ (evS (s 67) l st).length = r := by
  intro l
  induction l with
  | nil =>
    intro n i r st s h15 h57 _ _ hs hd hr _ hi hn
    cases n with
    | zero => simp at hn
    | succ n =>
      rw [f_X7_says_16, h15, show (4 : Int32) * nI t + nI p + 1 = nI (4 * t + p + 1) by rw [show (4 : Int32) = nI 4 from rfl, nI_mul, nI_add, nI_1], gd_t (zib_nI (by omega) (by decide)), zix_nI (by omega), h57]
      simp only [List.length_nil, Nat.add_zero] at hi ⊢
      rw [if_pos (nI_le (Nat.le_refl _) (by omega)), gd_t (c := zib 0 200) rfl]
      simp only [dpS, Option.some.injEq] at hd
      exact ⟨s, rfl, hs, hd⟩
  | cons v l ih =>
    intro n i r st s h15 h57 hc ht hs hd hr hl hi hn
    cases n with
    | zero => simp at hn
    | succ n =>
      simp only [List.length_cons] at hl hi hn h57 ⊢
      obtain ⟨e, hd1, hd2⟩ := dpS_cons hd
      have ht1 := ht v (List.mem_cons_self ..)
      have hti : ∀ u, u ∈ l → tokOk u := fun u hu => ht u (List.mem_cons_of_mem _ hu)
      have xi : zix (nI (200 * t + i)) = 200 * t + i := zix_nI (by omega)
      rw [f_X7_says_16, h15, show (4 : Int32) * nI t + nI p + 1 = nI (4 * t + p + 1) by rw [show (4 : Int32) = nI 4 from rfl, nI_mul, nI_add, nI_1], gd_t (zib_nI (by omega) (by decide)), zix_nI (by omega), h57, if_neg (nI_ge (by omega) (by omega)), show (200 : Int32) * nI t + nI i = nI (200 * t + i) by rw [show (200 : Int32) = nI 200 from rfl, nI_mul, nI_add], gd_t (zib_nI (by omega) (by decide)), xi, hc.1, nm_eq]
      have step : ∀ (k : Nat) (w : Int32) (u : List Int32), ev1 (s 67) v st = w :: u → u.length = k → stk 66 s u → e = k + 1 → k < 160 → ∃ S, f_X7_says_16 n (nI p) (nI (k + 1)) (nI (i + 1)) (zUp s 66 k w) = some (S 66 0, S) ∧ stk 66 S (evS (s 67) (v :: l) st) ∧ (evS (s 67) (v :: l) st).length = r := by
        intro k w u he hk hst hek hk1
        subst hk
        have hq := ih n (i + 1) r (w :: u) (zUp s 66 u.length w) (by rw [zUp_off (by omega)]; exact h15) (by rw [zUp_off (by omega), h57, show i + 1 + l.length = i + (l.length + 1) by omega]) (cdM.of (fun k => zUp_off (by omega)) (by rw [show 200 * t + (i + 1) = 200 * t + i + 1 by omega]; exact hc.2)) hti (stk_push hst) (by rw [List.length_cons, ← hek]; exact hd2) hr (by
          rw [List.length_cons]
          have : e ≤ st.length + 1 := by
            unfold dp1 at hd1
            split at hd1
            · injection hd1; omega
            · split at hd1
              · injection hd1; omega
              · split at hd1
                · split at hd1
                  · injection hd1; omega
                  · cases hd1
                · split at hd1
                  · injection hd1; omega
                  · cases hd1
          omega) (by omega) (by omega)
        obtain ⟨S, g1, g2, g3⟩ := hq
        have ea : zUp s 66 u.length w 67 = s 67 := by funext k; exact zUp_off (by omega)
        rw [ea] at g2 g3
        refine ⟨S, g1, ?_, ?_⟩
        · rw [evS, he]; exact g2
        · rw [evS, he]; exact g3
      rcases ht1 with h | h | h | h
      · have hv : v < 6 := h
        have ev : ev1 (s 67) v st = s 67 v :: st := by unfold ev1; rw [if_neg (by omega), if_pos hv]
        have he : e = st.length + 1 := by unfold dp1 at hd1; rw [if_neg (by omega), if_pos hv] at hd1; injection hd1; omega
        obtain ⟨S, g⟩ := step st.length _ st ev rfl hs he (by omega)
        refine ⟨S, ?_, g.2⟩
        rw [if_neg (n100k v (by omega)), if_neg (n11k v (by omega))]
        unfold f_X7_says_66
        rw [if_neg (n11k v (by omega)), gd_t (zib_nI (by omega) (by decide)), gd_t (zib_nI (by omega) (by decide)), nm_eq, nm_eq, nm_eq, zix_nI (by omega), zix_nI (by omega), nI_1, nI_1]
        exact g.1
      · have hv := h.1
        have hv2 := h.2
        have ev : ev1 (s 67) v st = nI (v - 100000) :: st := by unfold ev1; rw [if_pos hv]
        have he : e = st.length + 1 := by unfold dp1 at hd1; rw [if_pos hv] at hd1; injection hd1; omega
        obtain ⟨S, g⟩ := step st.length _ st ev rfl hs he (by omega)
        refine ⟨S, ?_, g.2⟩
        rw [if_pos (n100p v hv (by omega))]
        unfold f_X7_says_66
        rw [if_pos (n11p v (by omega) (by omega)), gd_t (zib_nI (by omega) (by decide)), nm_eq, nm_eq, nm_eq, zix_nI (by omega), nI_1, nI_1, show (100000 : Int32) = nI 100000 from rfl, nI_sub hv]
        exact g.1
      · have hv : ¬ 100000 ≤ v ∧ ¬ v < 6 := by unfold isO1 at h; omega
        have hv11 : 11 ≤ v ∧ v < 20 := by unfold isO1 at h; omega
        cases st with
        | nil =>
          unfold dp1 at hd1
          rw [if_neg hv.1, if_neg hv.2, if_pos (show v = 13 ∨ v = 19 from h)] at hd1
          simp at hd1
        | cons x u =>
          have ev : ev1 (s 67) v (x :: u) = op1 v x :: u := by unfold ev1; rw [if_neg hv.1, if_neg hv.2, if_pos (show v = 13 ∨ v = 19 from h)]; rfl
          have he : e = u.length + 1 := by
            unfold dp1 at hd1
            rw [if_neg hv.1, if_neg hv.2, if_pos (show v = 13 ∨ v = 19 from h), if_pos (by simp)] at hd1
            simp at hd1
            omega
          simp only [List.length_cons] at hl
          obtain ⟨S, g⟩ := step u.length _ u ev rfl hs.2 he (by omega)
          refine ⟨S, ?_, g.2⟩
          have hx : s 66 u.length = x := hs.1
          have em : nI (u.length + 1) - 1 = nI u.length := by rw [← zn1, nI_sub (by omega), show u.length + 1 - 1 = u.length by omega]
          have gz : zib (nI u.length) 200 = true := zib_nI (by omega) (by decide)
          have xz : zix (nI u.length) = u.length := zix_nI (by omega)
          rw [if_neg (n100k v (by omega)), if_pos (n11p v (by omega) (by omega)), List.length_cons, em, xz, hx]
          rcases h with rfl | rfl
          · rw [if_pos (by rfl)]
            have hop : op1 13 x = if x = 0 then 1 else 0 := rfl
            rw [hop] at g
            by_cases q : x = 0
            · rw [if_pos q] at g
              rw [gd_t gz, if_pos q, gd_t gz, nm_eq, nm_eq, nI_1]
              exact g.1
            · rw [if_neg q] at g
              rw [gd_t gz, if_neg q, gd_t gz, nm_eq, nm_eq, nI_1]
              exact g.1
          · rw [if_neg (by decide), if_pos (by rfl), gd_t gz, gd_t gz, nm_eq, nm_eq, nI_1]
            exact g.1
      · have hv : ¬ 100000 ≤ v ∧ ¬ v < 6 ∧ ¬ (v = 13 ∨ v = 19) := by unfold isO2 at h; omega
        have hv11 : 11 ≤ v ∧ v < 20 ∧ v ≠ 13 ∧ v ≠ 19 := by unfold isO2 at h; omega
        have h2 : 2 ≤ st.length := by
          unfold dp1 at hd1
          rw [if_neg hv.1, if_neg hv.2.1, if_neg hv.2.2] at hd1
          split at hd1
          · assumption
          · cases hd1
        match st, h2 with
        | y :: x :: u, _ =>
          have ev : ev1 (s 67) v (y :: x :: u) = op2 v x y :: u := by unfold ev1; rw [if_neg hv.1, if_neg hv.2.1, if_neg hv.2.2]; rfl
          have he : e = u.length + 1 := by
            unfold dp1 at hd1
            rw [if_neg hv.1, if_neg hv.2.1, if_neg hv.2.2, if_pos (by simp)] at hd1
            simp at hd1
            omega
          simp only [List.length_cons] at hl
          obtain ⟨S, g⟩ := step u.length _ u ev rfl hs.2.2 he (by omega)
          refine ⟨S, ?_, g.2⟩
          have hy : s 66 (u.length + 1) = y := hs.1
          have hx : s 66 u.length = x := hs.2.1
          have em : nI (u.length + 1) - 1 = nI u.length := by rw [← zn1, nI_sub (by omega), show u.length + 1 - 1 = u.length by omega]
          have gz : zib (nI u.length) 200 = true := zib_nI (by omega) (by decide)
          have gz1 : zib (nI (u.length + 1)) 200 = true := zib_nI (by omega) (by decide)
          have xz : zix (nI u.length) = u.length := zix_nI (by omega)
          have xz1 : zix (nI (u.length + 1)) = u.length + 1 := zix_nI (by omega)
          rw [if_neg (n100k v (by omega)), if_pos (n11p v (by omega) (by omega)), if_neg (n13k v (by omega) hv11.2.2.1), if_neg (n19k v (by omega) hv11.2.2.2), List.length_cons, List.length_cons, pk_m1, nm_eq, em, gd_t gz, gd_t gz1, xz, xz1, hx, hy, two_o2 h, bd_s, gd_t gz, nm_eq, nm_eq, nI_1]
          exact g.1

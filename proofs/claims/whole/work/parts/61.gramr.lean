-- the model's loop keeps the grammar: all levels
def simB (B : Nat → Nat) (z K : Nat) (c : zMem → Option (Int32 × zMem)) (H W : List Nat) (q n : Nat) (L : Option (Int32 × zMem)) (r : zGr) : Prop := match r with
  | .error f => ∃ S, L = some (0, S) ∧ S 47 24 = nI f
  | .ok (q1, D) => ∃ S n2 m2, L = f_X7_eRead_14 c n2 0 m2 S ∧ n ≤ n2 + (q1 - q) ∧ mLp B z K (d7 H) (W ++ D ++ t7 H) q1 S
theorem tk4_apl {D1 X : List Nat} (h : tk4 (d5 D1) = true) : tk4 (d5 (D1 ++ X)) = true := by
  induction D1 with
  | nil => cases h
  | cons a t ih =>
    unfold d5 at h ih ⊢
    rw [List.cons_append, List.dropWhile_cons]
    rw [List.dropWhile_cons] at h
    by_cases q : 5 ≤ rk a
    · rw [if_pos (decide_eq_true q)] at h ⊢
      exact ih h
    · rw [if_neg (by simpa using q)] at h ⊢
      exact h
theorem d7_19 (H : List Nat) : d7 (19 :: H) = d7 H ∧ t7 (19 :: H) = 19 :: t7 H := by
  constructor
  · show List.dropWhile _ _ = _
    rw [List.dropWhile_cons, if_pos (by decide)]
  · show List.takeWhile _ _ = _
    rw [List.takeWhile_cons, if_pos (by decide)]
theorem d1_0 (H : List Nat) : d1 (0 :: H) = 0 :: H ∧ t1 (0 :: H) = [] := by
  constructor
  · show List.dropWhile _ _ = _
    rw [List.dropWhile_cons, if_neg (by decide)]
  · show List.takeWhile _ _ = _
    rw [List.takeWhile_cons, if_neg (by decide)]
def lenG (z : Nat) (g : Nat → zGr) : Prop := ∀ q q1 D, q ≤ z → g q = .ok (q1, D) → q + D.length ≤ q1 ∧ q1 ≤ z
/-- behind a value, neither ; nor ) nor what goes on: the fault -/
theorem st_stop {B : Nat → Nat} {z K q n : Nat} {H D1 W : List Nat} {s : zMem} {c : zMem → Option (Int32 × zMem)} {m : Int32} (l : mLp B z K (D1 ++ H) W q s) (hs : stopK 0 (tkK B z q) D1) (k59 : tkK B z q ≠ 59) (k41 : tkK B z q ≠ 41) : ∃ S, f_X7_eRead_14 c (n + 1) 0 m s = some (0, S) ∧ S 47 24 = nI (tkB B z q) := by
  cases hsg : sgn (tkK B z q) with
  | none => exact st_none l hsg k59 k41
  | some v =>
    obtain ⟨so, _⟩ := st_op (c := c) (n := n) (m := m) l hsg
    have hv : (v = 14 ∨ v = 15) ∧ (tkK B z q = 60 ∨ tkK B z q = 61) := by
      obtain ⟨p0, p1, p3, p4, p5⟩ := hs
      have a0 := p0 rfl
      have a1 := p1 (by omega)
      have a3 := p3 (by omega)
      have a4 := p4 (by omega)
      unfold sgn at hsg
      repeat' split at hsg
      all_goals first | (injection hsg with hsg; omega) | cases hsg
    have t4 := hs.2.2.2.2 (by omega) hv.2
    refine so ?_
    have r4 : rk v = 4 := by rcases hv.1 with rfl | rfl <;> rfl
    have l5 : lvB v = 5 := by unfold lvB; rw [if_pos r4]
    rw [l5, decide_eq_true r4, Bool.true_and]
    exact tk4_apl t4
theorem sim_one {B : Nat → Nat} {z K o : Nat} {c : zMem → Option (Int32 × zMem)} {g5 g0 : Nat → zGr}
    (hc : ∀ (H W : List Nat) (q : Nat) (S : zMem), mNx B z K H W q S → 0 ∈ H → ∃ S', c S = some (0, S') ∧ S' 47 24 = nI (tkB B z q))
    (hl5 : lenG z g5) (hl0 : lenG z g0)
    (i5 : o < 5 → ∀ (H W : List Nat) (q n : Nat) (m : Int32) (s : zMem), cntO H = o + 1 → mLp B z K H W q s → z - q < n → (tkK B z q = 9 → m = 0) → simB B z K c H W q n (f_X7_eRead_14 c n 1 m s) (g5 q))
    (i0 : o < 5 → ∀ (H W : List Nat) (q n : Nat) (s : zMem), cntO H = o + 1 → topLt 1 H → mLp B z K H W q s → z - q < n → simR B z K c 0 H W q n (f_X7_eRead_14 c n 1 1 s) (g0 q)) :
    ∀ (H W : List Nat) (q n : Nat) (m : Int32) (s : zMem), cntO H = o → o ≤ 5 → mLp B z K H W q s → z - q < n → (tkK B z q = 9 → m = 0) → simB B z K c H W q n (f_X7_eRead_14 c n 1 m s) (gOne B z g5 g0 o q) := by
  intro H W q n m s ho ho5 h hn hm
  have hq := h.2.2.1
  have ht := tk_end (B := B) hq
  cases n with
  | zero => omega
  | succ n =>
    unfold gOne
    by_cases k2 : tkK B z q = 2
    · rw [if_pos k2]
      obtain ⟨S, e, o1⟩ := st_val (c := c) (n := n) (m := m) h (Or.inl k2)
      rw [if_pos k2] at o1
      exact ⟨S, n, m, e, by have := ht.2.2.1 (by omega); omega, o1⟩
    rw [if_neg k2]
    by_cases k3 : tkK B z q = 3
    · rw [if_pos k3]
      obtain ⟨S, e, o1⟩ := st_val (c := c) (n := n) (m := m) h (Or.inr k3)
      rw [if_neg k2] at o1
      exact ⟨S, n, m, e, by have := ht.2.2.1 (by omega); omega, o1⟩
    rw [if_neg k3]
    by_cases k45 : tkK B z q = 45
    · rw [if_pos k45]
      have hlt := ht.2.2.1 (by omega)
      obtain ⟨s1, s2⟩ := st_neg (c := c) (n := n) (m := m) h k45
      by_cases o5 : o < 5
      · rw [if_pos o5]
        obtain ⟨S, e, l1, hc1⟩ := s2 (by omega)
        have hi := i5 o5 (19 :: H) W (tkE B z q) n 0 S (by omega) l1 (by omega) (fun _ => rfl)
        rw [← e] at hi
        cases hg : g5 (tkE B z q) with
        | error f => rw [hg] at hi; exact hi
        | ok p =>
          obtain ⟨q1, D⟩ := p
          have h2 := hl5 _ _ _ ht.1 hg
          rw [hg] at hi
          obtain ⟨S2, n2, m2, e2, hn2, l2⟩ := hi
          refine ⟨S2, n2, m2, e2, by omega, ?_⟩
          rw [(d7_19 H).1, (d7_19 H).2] at l2
          rw [show W ++ (D ++ [19]) ++ t7 H = W ++ D ++ 19 :: t7 H by simp]
          exact l2
      · rw [if_neg o5]
        exact s1 (by omega)
    rw [if_neg k45]
    by_cases k40 : tkK B z q = 40
    · rw [if_pos k40]
      have hlt := ht.2.2.1 (by omega)
      obtain ⟨s1, s2⟩ := st_par (c := c) (n := n) (m := m) h k40
      by_cases o5 : o < 5
      · rw [if_pos o5]
        obtain ⟨S, e, l1, hc1⟩ := s2 (by omega)
        have hi := i0 o5 (0 :: H) W (tkE B z q) n S (by omega) (fun a t q => by injection q with q1; subst q1; decide) l1 (by omega)
        rw [← e] at hi
        cases hg : g0 (tkE B z q) with
        | error f => rw [hg] at hi; exact hi
        | ok p =>
          obtain ⟨q1, D⟩ := p
          rw [hg] at hi
          obtain ⟨D1, E, S2, n2, m2, e2, hn2, l2, he, hD, hs⟩ := hi
          have h2 := hl0 _ _ _ ht.1 hg
          have hall : ∀ v, v ∈ D1 → (fun u => decide (1 ≤ rk u)) v = true := fun v hv => decide_eq_true (hD v hv).1
          obtain ⟨w1, w2⟩ := tw_app D1 (0 :: H) hall
          have ht1 := tk_end (B := B) l2.2.2.1
          cases n2 with
          | zero => omega
          | succ n2 =>
            dsimp only
            by_cases k41 : tkK B z q1 = 41
            · rw [if_pos k41]
              obtain ⟨_, sc⟩ := st_close (c := c) (n := n2) (m := m2) l2 k41
              obtain ⟨S3, e3, l3⟩ := sc H (w2.trans (d1_0 H).1)
              have e4 : t1 (D1 ++ 0 :: H) = D1 := by
                have w1' : t1 (D1 ++ 0 :: H) = D1 ++ t1 (0 :: H) := w1
                rw [w1', (d1_0 H).2, List.append_nil]
              rw [e4] at l3
              refine ⟨S3, n2, m2, by rw [e2, e3], ?_, ?_⟩
              · have := ht1.2.2.1 (by omega)
                omega
              · rw [← he, show W ++ (E ++ D1) ++ t7 H = W ++ E ++ D1 ++ t7 H by simp]
                exact l3
            · rw [if_neg k41]
              show ∃ S, _ = some (0, S) ∧ _
              rw [e2]
              by_cases k59 : tkK B z q1 = 59
              · obtain ⟨S3, e3, x3⟩ := st_end (c := c) (n := n2) (m := m2) l2 k59
                obtain ⟨S4, e4, b4⟩ := hc _ _ _ _ x3 (by simp)
                exact ⟨S4, by rw [e3, e4], b4⟩
              · exact st_stop l2 hs k59 k41
      · rw [if_neg o5]
        exact s1 (by omega)
    rw [if_neg k40]
    exact st_bad h k2 k3 k45 k40 hm
theorem sim_not {B : Nat → Nat} {z K o : Nat} {c : zMem → Option (Int32 × zMem)} {g2 g3 : Nat → zGr}
    (hl2 : lenG z g2) (hl3 : lenG z g3)
    (i2 : o < 5 → ∀ (H W : List Nat) (q n : Nat) (s : zMem), cntO H = o + 1 → topLt 4 H → mLp B z K H W q s → z - q < n → simR B z K c 2 H W q n (f_X7_eRead_14 c n 1 1 s) (g2 q))
    (i3 : ∀ (H W : List Nat) (q n : Nat) (m : Int32) (s : zMem), cntO H = o → topLt 5 H → mLp B z K H W q s → z - q < n → (tkK B z q = 9 → m = 0) → simR B z K c 3 H W q n (f_X7_eRead_14 c n 1 m s) (g3 q)) :
    ∀ (H W : List Nat) (q n : Nat) (s : zMem), cntO H = o → o ≤ 5 → topLt 4 H → mLp B z K H W q s → z - q < n → simR B z K c 2 H W q n (f_X7_eRead_14 c n 1 1 s) (gNot B z g2 g3 o q) := by
  intro H W q n s ho ho5 hH h hn
  have hq := h.2.2.1
  have ht := tk_end (B := B) hq
  have hH5 : topLt 5 H := fun a t e => by have := hH a t e; omega
  unfold gNot
  by_cases k9 : tkK B z q = 9
  · rw [if_pos k9]
    have hlt := ht.2.2.1 (by omega)
    cases n with
    | zero => omega
    | succ n =>
      obtain ⟨s1, s2⟩ := st_not (c := c) (n := n) h k9
      by_cases o5 : o < 5
      · rw [if_pos o5]
        obtain ⟨S, e, l1, hc1⟩ := s2 (by omega)
        have hi := i2 o5 (13 :: H) W (tkE B z q) n S (by omega) (fun a t q => by injection q with q1; subst q1; decide) l1 (by omega)
        rw [← e] at hi
        cases hg : g2 (tkE B z q) with
        | error f => rw [hg] at hi; exact hi
        | ok p =>
          obtain ⟨q1, D⟩ := p
          rw [hg] at hi
          obtain ⟨D1, E, S2, n2, m2, e2, hn2, l2, he, hD, hs⟩ := hi
          have h2 := hl2 _ _ _ ht.1 hg
          refine ⟨D1 ++ [13], E, S2, n2, m2, e2, by omega, ?_, by rw [← he]; simp, fun v hv => ?_, hs.1, hs.2.1, hs.2.2.1, hs.2.2.2.1, fun a b => tk4_app (hs.2.2.2.2 a b)⟩
          · rw [show (D1 ++ [13]) ++ H = D1 ++ 13 :: H by simp]
            exact l2
          · rcases List.mem_append.mp hv with hv | hv
            · exact hD v hv
            · rw [List.mem_singleton.mp hv]; decide
      · rw [if_neg o5]
        exact s1 (by omega)
  · rw [if_neg k9]
    have hi := i3 H W q n 1 s ho hH5 h hn (fun r => absurd r k9)
    cases hg : g3 q with
    | error f => rw [hg] at hi; exact hi
    | ok p =>
      obtain ⟨q1, D⟩ := p
      rw [hg] at hi
      obtain ⟨D1, E, S2, n2, m2, e2, hn2, l2, he, hD, hs⟩ := hi
      have h2 := hl3 _ _ _ hq hg
      dsimp only
      by_cases k6 : tkK B z q1 = 60 ∨ tkK B z q1 = 61
      · rw [if_pos k6]
        have ht1 := tk_end (B := B) l2.2.2.1
        have hlt1 := ht1.2.2.1 (by omega)
        obtain ⟨v, hv, hvv⟩ : ∃ v, v = (if tkK B z q1 = 60 then 14 else 15) ∧ (v = 14 ∨ v = 15) := ⟨_, rfl, by split <;> omega⟩
        rw [← hv]
        have hsg : sgn (tkK B z q1) = some v := by
          rcases k6 with k6 | k6 <;> rw [hv, k6] <;> rfl
        have r4 : rk v = 4 := by rcases hvv with rfl | rfl <;> rfl
        have l5 : lvB v = 5 := by unfold lvB; rw [if_pos r4]
        have iop : isOp v = false := by rcases hvv with rfl | rfl <;> rfl
        cases n2 with
        | zero => omega
        | succ n2 =>
          obtain ⟨_, so⟩ := st_op (c := c) (n := n2) (m := m2) l2 hsg
          have hall : ∀ v, v ∈ D1 → (fun u => decide (5 ≤ rk u)) v = true := fun v hv => decide_eq_true (hD v hv).1
          obtain ⟨w1, w2⟩ := tw_app D1 H hall
          obtain ⟨w3, w4⟩ := top_w hH5
          have nt : tk4 H = false := by
            cases H with
            | nil => rfl
            | cons a t => have := hH a t rfl; exact decide_eq_false (by omega)
          rw [l5, w1, w2, w3, w4, List.append_nil, nt, Bool.and_false, if_neg (by omega)] at so
          obtain ⟨S3, e3, l3⟩ := so rfl
          have hi2 := i3 (v :: H) (W ++ E ++ D1) (tkE B z q1) n2 0 S3 (by show cntO H + (if isOp v = true then 1 else 0) = o; rw [iop]; exact ho) (fun a t q => by injection q with q1; subst q1; omega) l3 (by omega) (fun _ => rfl)
          rw [← e3, ← e2] at hi2
          cases hg2 : g3 (tkE B z q1) with
          | error f => rw [hg2] at hi2; exact hi2
          | ok p =>
            obtain ⟨q2, D2⟩ := p
            rw [hg2] at hi2
            obtain ⟨D1', E', S4, n4, m4, e4, hn4, l4, he4, hD4, hs4⟩ := hi2
            have h4 := hl3 _ _ _ ht1.1 hg2
            refine ⟨D1' ++ [v], E ++ D1 ++ E', S4, n4, m4, e4, by omega, ?_, by rw [← he, ← he4]; simp, fun u hu => ?_, fun q => by omega, fun q => by omega, fun _ => hs4.2.2.1 (by omega), fun _ => hs4.2.2.2.1 (by omega), fun _ _ => ?_⟩
            · rw [show (D1' ++ [v]) ++ H = D1' ++ v :: H by simp, show W ++ (E ++ D1 ++ E') = W ++ E ++ D1 ++ E' by simp]
              exact l4
            · rcases List.mem_append.mp hu with hu | hu
              · have := hD4 u hu
                exact ⟨Nat.le_trans (by decide) this.1, this.2⟩
              · rw [List.mem_singleton.mp hu, r4]; decide
            · have hall4 : ∀ v, v ∈ D1' → (fun u => decide (5 ≤ rk u)) v = true := fun v hv => decide_eq_true (hD4 v hv).1
              have w5 := (tw_app D1' [v] hall4).2
              show tk4 (List.dropWhile _ (D1' ++ [v])) = true
              rw [w5, List.dropWhile_cons, if_neg (by rw [r4]; decide)]
              exact decide_eq_true r4
      · rw [if_neg k6]
        exact ⟨D1, E, S2, n2, m2, e2, hn2, l2, he, fun u hu => ⟨Nat.le_trans (by decide) (hD u hu).1, (hD u hu).2⟩, fun q => by omega, fun q => by omega, fun _ => hs.2.2.1 (by omega), fun _ => hs.2.2.2.1 (by omega), fun _ q => absurd q k6⟩
theorem gr_lenG {B : Nat → Nat} {z n k o : Nat} : lenG z (gr B z n k o) := fun q q1 D hq h => gr_len n k o q q1 D hq h
theorem hrK_mono {k : Nat} (h : k ≤ 4) : hrK k ≤ hrK (k + 1) := by
  rcases (by omega : k = 0 ∨ k = 1 ∨ k = 2 ∨ k = 3 ∨ k = 4) with rfl | rfl | rfl | rfl | rfl <;> decide
theorem sim {B : Nat → Nat} {z K : Nat} {c : zMem → Option (Int32 × zMem)} (hz : z ≤ 160)
    (hc : ∀ (H W : List Nat) (q : Nat) (S : zMem), mNx B z K H W q S → 0 ∈ H → ∃ S', c S = some (0, S') ∧ S' 47 24 = nI (tkB B z q)) :
    ∀ n : Nat, (∀ (k o : Nat) (H W : List Nat) (q nf : Nat) (m : Int32) (s : zMem), k ≤ 5 → o ≤ 5 → cntO H = o → (5 - o) * 6 + (6 - k) ≤ n → topLt (hrK k) H → mLp B z K H W q s → z - q < nf → (k ≤ 2 → m = 1) → (3 ≤ k → tkK B z q = 9 → m = 0) → simR B z K c k H W q nf (f_X7_eRead_14 c nf 1 m s) (gr B z n k o q)) ∧
      (∀ (o : Nat) (H W : List Nat) (q nf : Nat) (m : Int32) (s : zMem), o ≤ 5 → cntO H = o → (5 - o) * 6 + 1 ≤ n → mLp B z K H W q s → z - q < nf → (tkK B z q = 9 → m = 0) → simB B z K c H W q nf (f_X7_eRead_14 c nf 1 m s) (gr B z n 5 o q)) := by
  intro n
  induction n with
  | zero => exact ⟨fun k o H W q nf m s hk ho hO hn => by omega, fun o H W q nf m s ho hO hn => by omega⟩
  | succ n ih =>
    obtain ⟨ihA, ihB⟩ := ih
    have hB : ∀ (o : Nat) (H W : List Nat) (q nf : Nat) (m : Int32) (s : zMem), o ≤ 5 → cntO H = o → (5 - o) * 6 + 1 ≤ n + 1 → mLp B z K H W q s → z - q < nf → (tkK B z q = 9 → m = 0) → simB B z K c H W q nf (f_X7_eRead_14 c nf 1 m s) (gr B z (n + 1) 5 o q) := by
      intro o H W q nf m s ho hO hn h hf hm
      have e : gr B z (n + 1) 5 o q = gOne B z (gr B z n 5 (o + 1)) (gr B z n 0 (o + 1)) o q := rfl
      rw [e]
      exact sim_one hc gr_lenG gr_lenG (fun o5 H W q n2 m s hO h hf hm => ihB (o + 1) H W q n2 m s (by omega) hO (by omega) h hf hm) (fun o5 H W q n2 s hO hH h hf => ihA 0 (o + 1) H W q n2 1 s (by omega) (by omega) hO (by omega) hH h hf (fun _ => rfl) (fun q => by omega)) H W q nf m s hO ho h hf hm
    refine ⟨?_, hB⟩
    intro k o H W q nf m s hk ho hO hn hH h hf hm1 hm0
    by_cases k5 : k = 5
    · subst k5
      have hi := hB o H W q nf m s ho hO (by omega) h hf (hm0 (by omega))
      cases hg : gr B z (n + 1) 5 o q with
      | error f => rw [hg] at hi; exact hi
      | ok p =>
        obtain ⟨q1, D⟩ := p
        rw [hg] at hi
        obtain ⟨S2, n2, m2, e2, hn2, l2⟩ := hi
        obtain ⟨w3, w4⟩ := top_w hH
        have w3' : t7 H = [] := w3
        have w4' : d7 H = H := w4
        rw [w3', w4', List.append_nil] at l2
        exact ⟨[], D, S2, n2, m2, e2, hn2, l2, by simp, (fun v hv => by cases hv), fun q => by omega, fun q => by omega, fun q => by omega, fun q => by omega, fun q => by omega⟩
    · by_cases k2 : k = 2
      · subst k2
        have e : gr B z (n + 1) 2 o q = gNot B z (gr B z n 2 (o + 1)) (gr B z n 3 o) o q := rfl
        rw [e, hm1 (by omega)]
        exact sim_not gr_lenG gr_lenG (fun o5 H W q n2 s hO hH h hf => ihA 2 (o + 1) H W q n2 1 s (by omega) (by omega) hO (by omega) hH h hf (fun _ => rfl) (fun q => by omega)) (fun H W q n2 m s hO hH h hf hm => ihA 3 o H W q n2 m s (by omega) ho hO (by omega) hH h hf (fun q => by omega) (fun _ => hm)) H W q nf s hO ho hH h hf
      · have e : gr B z (n + 1) k o q = match gr B z n (k + 1) o q with
          | .error f => .error f
          | .ok (q1, D) => chn B z (gr B z n (k + 1) o) k 160 q1 D := by
          show (if k = 2 then _ else if k = 5 then _ else _) = _
          rw [if_neg k2, if_neg k5]
          rfl
        have hi := ihA (k + 1) o H W q nf m s (by omega) ho hO (by omega) (fun a t e => Nat.lt_of_lt_of_le (hH a t e) (hrK_mono (by omega))) h hf (fun q => hm1 (by omega)) (fun q => hm0 (by omega))
        rw [e]
        cases hg : gr B z n (k + 1) o q with
        | error f => rw [hg] at hi; exact hi
        | ok p =>
          obtain ⟨q1, D⟩ := p
          rw [hg] at hi
          obtain ⟨D1, E, S2, n2, m2, e2, hn2, l2, he, hD, hs⟩ := hi
          have h2 := gr_lenG (B := B) (n := n) (k := k + 1) (o := o) _ _ _ h.2.2.1 hg
          dsimp only
          rw [← he]
          refine sim_chn (H := H) (W := W) (q0 := q) (N := nf) hH (by omega) gr_lenG (fun a W q n2 s ha hio h12 h hf => ?_) 160 q1 D1 E n2 m2 S2 l2 (by omega) (by omega) (by omega) hn2 e2 (fun v hv => ⟨Nat.le_trans ?_ (hD v hv).1, (hD v hv).2⟩) hs
          · refine ihA (k + 1) o (a :: H) W q n2 _ s (by omega) ho ?_ (by omega) (fun b t e => by injection e with e1; subst e1; exact ha) h hf (fun r => if_pos (h12.mpr (by omega))) (fun r _ => if_neg (fun r2 => by have := h12.mp r2; omega))
            show cntO H + (if isOp a = true then 1 else 0) = o
            rw [hio]; exact hO
          · rcases (by omega : k = 0 ∨ k = 1 ∨ k = 3 ∨ k = 4) with rfl | rfl | rfl | rfl <;> decide

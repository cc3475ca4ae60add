-- a part of a text, and a text, by the grammar; what it is worth as codes
def grE (B : Nat → Nat) (z q : Nat) : zGr := match gr B z 60 0 0 q with
  | .error f => .error f
  | .ok (q1, D) => if tkK B z q1 = 59 then .ok (tkE B z q1, D) else .error (tkB B z q1)
def grP (B : Nat → Nat) (z p q : Nat) : zGr := if tkK B z q = 4 + p then grE B z (tkE B z q) else .error (tkB B z q)
def grX (B : Nat → Nat) (z : Nat) : Except Nat (List Nat × List Nat × List Nat) := match grP B z 0 0 with
  | .error f => .error f
  | .ok (q1, D0) => match grP B z 1 q1 with
    | .error f => .error f
    | .ok (q2, D1) => match grP B z 2 q2 with
      | .error f => .error f
      | .ok (q3, D2) => if tkK B z q3 = 0 then .ok (D0, D1, D2) else .error (tkB B z q3)
theorem grP_len {B : Nat → Nat} {z p q q1 : Nat} {D : List Nat} (hq : q ≤ z) (h : grP B z p q = .ok (q1, D)) : q + D.length ≤ q1 ∧ q1 ≤ z := by
  unfold grP at h
  split at h
  · unfold grE at h
    have ht := tk_end (B := B) hq
    cases hg : gr B z 60 0 0 (tkE B z q) with
    | error f => rw [hg] at h; cases h
    | ok x =>
      obtain ⟨q2, D2⟩ := x
      have hl := gr_len _ _ _ _ _ _ ht.1 hg
      rw [hg] at h
      dsimp only at h
      split at h
      · injection h with h
        injection h with h1 h2
        subst h1 h2
        have ht2 := tk_end (B := B) hl.2
        omega
      · cases h
  · cases h
theorem tkB_z {B : Nat → Nat} {z q : Nat} (hq : q ≤ z) : tkB B z q ≤ z := tkB_le hq
-- codes of a text: how deep, which
theorem dpS_app : ∀ (l1 l2 : List Nat) (d e : Nat), dpS l1 d = some e → dpS (l1 ++ l2) d = dpS l2 e := by
  intro l1
  induction l1 with
  | nil => intro l2 d e h; injection h with h; subst h; rfl
  | cons v r ih =>
    intro l2 d e h
    obtain ⟨e1, h1, h2⟩ := dpS_cons h
    show (match dp1 v d with | some e => dpS (r ++ l2) e | none => none) = _
    rw [h1]
    exact ih l2 e1 e h2
def goodD (D : List Nat) : Prop := (∀ d, dpS D d = some (d + 1)) ∧ ∀ v, v ∈ D → tokOk v
theorem goodD.two {D1 D2 : List Nat} {c : Nat} (h1 : goodD D1) (h2 : goodD D2) (hc : isO2 c) : goodD (D1 ++ D2 ++ [c]) := by
  refine ⟨fun d => ?_, fun v hv => ?_⟩
  · rw [dpS_app (D1 ++ D2) [c] d (d + 2) (by rw [dpS_app D1 D2 d (d + 1) (h1.1 d), h2.1 (d + 1)])]
    show (match dp1 c (d + 2) with | some e => dpS [] e | none => none) = _
    have e : dp1 c (d + 2) = some (d + 1) := by
      unfold isO2 at hc
      unfold dp1
      rw [if_neg (by omega), if_neg (by omega), if_neg (by omega), if_pos (by omega)]
      rfl
    rw [e]
    rfl
  · rcases List.mem_append.mp hv with hv | hv
    · rcases List.mem_append.mp hv with hv | hv
      · exact h1.2 v hv
      · exact h2.2 v hv
    · rw [List.mem_singleton.mp hv]; exact Or.inr (Or.inr (Or.inr hc))
theorem goodD.one {D : List Nat} {c : Nat} (h : goodD D) (hc : isO1 c) : goodD (D ++ [c]) := by
  refine ⟨fun d => ?_, fun v hv => ?_⟩
  · rw [dpS_app D [c] d (d + 1) (h.1 d)]
    show (match dp1 c (d + 1) with | some e => dpS [] e | none => none) = _
    have e : dp1 c (d + 1) = some (d + 1) := by
      unfold isO1 at hc
      unfold dp1
      rw [if_neg (by omega), if_neg (by omega), if_pos (by omega), if_pos (by omega)]
    rw [e]
    rfl
  · rcases List.mem_append.mp hv with hv | hv
    · exact h.2 v hv
    · rw [List.mem_singleton.mp hv]; exact Or.inr (Or.inr (Or.inl hc))
theorem opK_o2 {k t c : Nat} (h : opK k t = some c) : isO2 c := by
  unfold opK at h
  unfold isO2
  repeat' split at h
  all_goals first | (injection h with h; omega) | cases h
theorem chn_good {B : Nat → Nat} {z k : Nat} {g : Nat → zGr} (hl : lenG z g) (hg : ∀ q q1 D, q ≤ z → g q = .ok (q1, D) → goodD D) : ∀ m q D q' D', q ≤ z → goodD D → chn B z g k m q D = .ok (q', D') → goodD D' := by
  intro m
  induction m with
  | zero =>
    intro q D q' D' hq hD h
    unfold chn at h
    injection h with h
    injection h with h1 h2
    subst h2
    exact hD
  | succ m ih =>
    intro q D q' D' hq hD h
    unfold chn at h
    cases hop : opK k (tkK B z q) with
    | none =>
      rw [hop] at h
      injection h with h
      injection h with h1 h2
      subst h2
      exact hD
    | some c =>
      rw [hop] at h
      dsimp only at h
      have ht := tk_end (B := B) hq
      cases hgq : g (tkE B z q) with
      | error f => rw [hgq] at h; cases h
      | ok x =>
        obtain ⟨q2, D2⟩ := x
        rw [hgq] at h
        exact ih q2 _ q' D' (hl _ _ _ ht.1 hgq).2 (hD.two (hg _ _ _ ht.1 hgq) (opK_o2 hop)) h
theorem numV_lt {B : Nat → Nat} {z : Nat} : ∀ n q v, z - q = n → numV B z v q + 1 ≤ (v + 1) * 10 ^ (run isDi B z q - q) := by
  intro n
  induction n with
  | zero =>
    intro q v h
    have hn : ¬ (q < z ∧ isDi (B q) = true) := by omega
    rw [num_no hn, run_no hn, Nat.sub_self]
    simp
  | succ n ih =>
    intro q v h
    by_cases hd : isDi (B q) = true
    · have hq : q < z := by omega
      rw [num_go hq hd, run_go hq hd]
      have hr := (run_b isDi B z (q + 1)).1
      have h1 := ih (q + 1) (v * 10 + (B q - 48)) (by omega)
      have hb : B q - 48 ≤ 9 := by
        unfold isDi at hd
        simp only [Bool.and_eq_true, decide_eq_true_eq] at hd
        omega
      rw [show run isDi B z (q + 1) - q = (run isDi B z (q + 1) - (q + 1)) + 1 by omega, Nat.pow_succ]
      have h2 : (v * 10 + (B q - 48) + 1) ≤ (v + 1) * 10 := by omega
      calc numV B z (v * 10 + (B q - 48)) (q + 1) + 1 ≤ (v * 10 + (B q - 48) + 1) * 10 ^ (run isDi B z (q + 1) - (q + 1)) := h1
        _ ≤ (v + 1) * 10 * 10 ^ (run isDi B z (q + 1) - (q + 1)) := Nat.mul_le_mul_right _ h2
        _ = (v + 1) * (10 ^ (run isDi B z (q + 1) - (q + 1)) * 10) := by rw [Nat.mul_assoc, Nat.mul_comm 10]
    · have hn : ¬ (q < z ∧ isDi (B q) = true) := fun r => hd r.2
      rw [num_no hn, run_no hn, Nat.sub_self]
      simp
theorem tkV_no {B : Nat → Nat} {z q : Nat} (h : tkK B z q = 2) : tkV B z q ≤ 9999 := by
  unfold tkK at h
  by_cases c1 : z ≤ tkB B z q
  · rw [if_pos c1] at h; cases h
  · rw [if_neg c1] at h
    by_cases c2 : isLe (B (tkB B z q)) = true
    · rw [if_pos c2] at h
      exfalso
      unfold kdW at h
      repeat' split at h
      all_goals omega
    · rw [if_neg c2] at h
      by_cases c3 : isDi (B (tkB B z q)) = true
      · rw [if_pos c3] at h
        split at h
        · rename_i c4
          unfold tkV
          rw [if_neg c2]
          unfold tkE at c4
          rw [if_neg c1, if_neg c2, if_pos c3] at c4
          have h1 := numV_lt (B := B) (z := z) _ (tkB B z q) 0 rfl
          have h2 : 10 ^ (run isDi B z (tkB B z q) - tkB B z q) ≤ 10 ^ 4 := Nat.pow_le_pow_right (by omega) c4
          omega
        · cases h
      · rw [if_neg c3] at h
        split at h
        · rename_i c4
          rw [h] at c4
          exact absurd c4 (by decide)
        · cases h
theorem gr_good {B : Nat → Nat} {z : Nat} : ∀ n k o q q' D, q ≤ z → gr B z n k o q = .ok (q', D) → goodD D := by
  intro n
  induction n with
  | zero => intro k o q q' D hq h; cases h
  | succ n ih =>
    intro k o q q' D hq h
    have ht := tk_end (B := B) hq
    by_cases k2 : k = 2
    · subst k2
      have e : gr B z (n + 1) 2 o q = gNot B z (gr B z n 2 (o + 1)) (gr B z n 3 o) o q := rfl
      rw [e] at h
      unfold gNot at h
      by_cases k9 : tkK B z q = 9
      · rw [if_pos k9] at h
        by_cases o5 : o < 5
        · rw [if_pos o5] at h
          cases hg : gr B z n 2 (o + 1) (tkE B z q) with
          | error f => rw [hg] at h; cases h
          | ok x =>
            obtain ⟨q1, D1⟩ := x
            rw [hg] at h
            injection h with h
            injection h with h1 h2
            subst h2
            exact (ih _ _ _ _ _ ht.1 hg).one (Or.inl rfl)
        · rw [if_neg o5] at h; cases h
      · rw [if_neg k9] at h
        cases hg : gr B z n 3 o q with
        | error f => rw [hg] at h; cases h
        | ok x =>
          obtain ⟨q1, D1⟩ := x
          have g1 := ih _ _ _ _ _ hq hg
          have l1 := gr_lenG _ _ _ hq hg
          rw [hg] at h
          dsimp only at h
          by_cases k6 : tkK B z q1 = 60 ∨ tkK B z q1 = 61
          · rw [if_pos k6] at h
            have ht1 := tk_end (B := B) l1.2
            cases hg2 : gr B z n 3 o (tkE B z q1) with
            | error f => rw [hg2] at h; cases h
            | ok x =>
              obtain ⟨q2, D2⟩ := x
              rw [hg2] at h
              injection h with h
              injection h with h1 h2
              subst h2
              refine g1.two (ih _ _ _ _ _ ht1.1 hg2) ?_
              unfold isO2
              split <;> omega
          · rw [if_neg k6] at h
            injection h with h
            injection h with h1 h2
            subst h2
            exact g1
    · by_cases k5 : k = 5
      · subst k5
        have e : gr B z (n + 1) 5 o q = gOne B z (gr B z n 5 (o + 1)) (gr B z n 0 (o + 1)) o q := rfl
        rw [e] at h
        unfold gOne at h
        by_cases c2 : tkK B z q = 2
        · rw [if_pos c2] at h
          injection h with h
          injection h with h1 h2
          subst h2
          have hv := tkV_no c2
          refine ⟨fun d => ?_, fun v hv2 => ?_⟩
          · show (match dp1 _ d with | some e => dpS [] e | none => none) = _
            have e : dp1 (100000 + tkV B z q) d = some (d + 1) := by unfold dp1; rw [if_pos (by omega)]
            rw [e]
            rfl
          · rw [List.mem_singleton.mp hv2]
            exact Or.inr (Or.inl ⟨by omega, by omega⟩)
        rw [if_neg c2] at h
        by_cases c3 : tkK B z q = 3
        · rw [if_pos c3] at h
          injection h with h
          injection h with h1 h2
          subst h2
          have hv := tkV_nm c3
          refine ⟨fun d => ?_, fun v hv2 => ?_⟩
          · show (match dp1 _ d with | some e => dpS [] e | none => none) = _
            have e : dp1 (tkV B z q) d = some (d + 1) := by unfold dp1; rw [if_neg (by omega), if_pos (by omega)]
            rw [e]
            rfl
          · rw [List.mem_singleton.mp hv2]
            exact Or.inl hv
        rw [if_neg c3] at h
        by_cases c45 : tkK B z q = 45
        · rw [if_pos c45] at h
          by_cases o5 : o < 5
          · rw [if_pos o5] at h
            cases hg : gr B z n 5 (o + 1) (tkE B z q) with
            | error f => rw [hg] at h; cases h
            | ok x =>
              obtain ⟨q1, D1⟩ := x
              rw [hg] at h
              injection h with h
              injection h with h1 h2
              subst h2
              exact (ih _ _ _ _ _ ht.1 hg).one (Or.inr rfl)
          · rw [if_neg o5] at h; cases h
        rw [if_neg c45] at h
        by_cases c40 : tkK B z q = 40
        · rw [if_pos c40] at h
          by_cases o5 : o < 5
          · rw [if_pos o5] at h
            cases hg : gr B z n 0 (o + 1) (tkE B z q) with
            | error f => rw [hg] at h; cases h
            | ok x =>
              obtain ⟨q1, D1⟩ := x
              rw [hg] at h
              dsimp only at h
              split at h
              · injection h with h
                injection h with h1 h2
                subst h2
                exact ih _ _ _ _ _ ht.1 hg
              · cases h
          · rw [if_neg o5] at h; cases h
        rw [if_neg c40] at h
        cases h
      · have e : gr B z (n + 1) k o q = match gr B z n (k + 1) o q with
          | .error f => .error f
          | .ok (q1, D) => chn B z (gr B z n (k + 1) o) k 160 q1 D := by
          show (if k = 2 then _ else if k = 5 then _ else _) = _
          rw [if_neg k2, if_neg k5]
          rfl
        rw [e] at h
        cases hg : gr B z n (k + 1) o q with
        | error f => rw [hg] at h; cases h
        | ok x =>
          obtain ⟨q1, D1⟩ := x
          have l1 := gr_lenG (n := n) (k := k + 1) (o := o) _ _ _ hq hg
          rw [hg] at h
          exact chn_good gr_lenG (fun q q1 D hq h => ih _ _ _ _ _ hq h) 160 q1 D1 q' D l1.2 (ih _ _ _ _ _ hq hg) h
theorem grP_good {B : Nat → Nat} {z p q q1 : Nat} {D : List Nat} (hq : q ≤ z) (h : grP B z p q = .ok (q1, D)) : goodD D := by
  unfold grP at h
  split at h
  · unfold grE at h
    have ht := tk_end (B := B) hq
    cases hg : gr B z 60 0 0 (tkE B z q) with
    | error f => rw [hg] at h; cases h
    | ok x =>
      obtain ⟨q2, D2⟩ := x
      have hl := gr_good _ _ _ _ _ _ ht.1 hg
      rw [hg] at h
      dsimp only at h
      split at h
      · injection h with h
        injection h with h1 h2
        subst h2
        exact hl
      · cases h
  · cases h

-- the grammar over the tokens: from the place q of the token that is looked at; .ok (place, codes) or .error (place of the fault)
abbrev zGr : Type := Except Nat (Nat × List Nat)
/-- what a level's chain goes on by: or, and, sums, products -/
def opK (k t : Nat) : Option Nat :=
  if k = 0 then (if t = 7 then some 11 else none)
  else if k = 1 then (if t = 8 then some 12 else none)
  else if k = 3 then (if t = 43 then some 16 else if t = 45 then some 17 else none)
  else if k = 4 then (if t = 42 then some 18 else none)
  else none
def chn (B : Nat → Nat) (z : Nat) (g : Nat → zGr) (k : Nat) : Nat → Nat → List Nat → zGr
  | 0, q, D => .ok (q, D)
  | m + 1, q, D => match opK k (tkK B z q) with
    | none => .ok (q, D)
    | some c => match g (tkE B z q) with
      | .error f => .error f
      | .ok (q2, D2) => chn B z g k m q2 (D ++ D2 ++ [c])
def gNot (B : Nat → Nat) (z : Nat) (g2 g3 : Nat → zGr) (o q : Nat) : zGr :=
  if tkK B z q = 9 then
    (if o < 5 then match g2 (tkE B z q) with
      | .error f => .error f
      | .ok (q1, D) => .ok (q1, D ++ [13])
    else .error (tkB B z q))
  else match g3 q with
    | .error f => .error f
    | .ok (q1, D) =>
      if tkK B z q1 = 60 ∨ tkK B z q1 = 61 then match g3 (tkE B z q1) with
        | .error f => .error f
        | .ok (q2, D2) => .ok (q2, D ++ D2 ++ [if tkK B z q1 = 60 then 14 else 15])
      else .ok (q1, D)
def gOne (B : Nat → Nat) (z : Nat) (g5 g0 : Nat → zGr) (o q : Nat) : zGr :=
  if tkK B z q = 2 then .ok (tkE B z q, [100000 + tkV B z q])
  else if tkK B z q = 3 then .ok (tkE B z q, [tkV B z q])
  else if tkK B z q = 45 then
    (if o < 5 then match g5 (tkE B z q) with
      | .error f => .error f
      | .ok (q1, D) => .ok (q1, D ++ [19])
    else .error (tkB B z q))
  else if tkK B z q = 40 then
    (if o < 5 then match g0 (tkE B z q) with
      | .error f => .error f
      | .ok (q1, D) => if tkK B z q1 = 41 then .ok (tkE B z q1, D) else .error (tkB B z q1)
    else .error (tkB B z q))
  else .error (tkB B z q)
def gr (B : Nat → Nat) (z : Nat) : Nat → Nat → Nat → Nat → zGr
  | 0, _, _, q => .error q
  | n + 1, k, o, q =>
    if k = 2 then gNot B z (gr B z n 2 (o + 1)) (gr B z n 3 o) o q
    else if k = 5 then gOne B z (gr B z n 5 (o + 1)) (gr B z n 0 (o + 1)) o q
    else match gr B z n (k + 1) o q with
      | .error f => .error f
      | .ok (q1, D) => chn B z (gr B z n (k + 1) o) k 160 q1 D
theorem tk_end {B : Nat → Nat} {z q : Nat} (hq : q ≤ z) : tkE B z q ≤ z ∧ q ≤ tkE B z q ∧ (tkK B z q ≠ 0 → q < tkE B z q) ∧ (tkK B z q = 0 → tkE B z q = z) := by
  have hb := run_b isBl B z q
  have hBB : run isBl B z q = tkB B z q := rfl
  rw [hBB] at hb
  have h1 := hb.2 hq
  unfold tkE tkK
  generalize tkB B z q = b at hb h1 ⊢
  by_cases c1 : z ≤ b
  · simp only [if_pos c1]
    exact ⟨h1, hb.1, (fun h => absurd rfl h), fun _ => by omega⟩
  · simp only [if_neg c1]
    by_cases c2 : isLe (B b) = true
    · simp only [if_pos c2]
      have hr := run_b isLe B z (b + 1)
      rw [run_go (by omega) c2]
      refine ⟨hr.2 (by omega), by omega, fun _ => by omega, fun h => ?_⟩
      exfalso
      unfold kdW at h
      split at h
      · omega
      · split at h
        · omega
        · split at h <;> omega
    · simp only [if_neg c2]
      by_cases c3 : isDi (B b) = true
      · simp only [if_pos c3]
        have hr := run_b isDi B z (b + 1)
        rw [run_go (by omega) c3]
        refine ⟨hr.2 (by omega), by omega, fun _ => by omega, fun h => ?_⟩
        exfalso
        split at h <;> omega
      · simp only [if_neg c3]
        refine ⟨by omega, by omega, fun _ => by omega, fun h => ?_⟩
        exfalso
        split at h
        · rename_i c4
          rw [h] at c4
          exact absurd c4 (by decide)
        · omega
theorem opK_ne {k t c : Nat} (h : opK k t = some c) : t ≠ 0 ∧ t ≠ 1 := by
  unfold opK at h
  constructor <;> (intro q; subst q; revert h; repeat' split) <;> simp_all
theorem chn_len {B : Nat → Nat} {z k : Nat} {g : Nat → zGr} (hg : ∀ q q1 D, q ≤ z → g q = .ok (q1, D) → q + D.length ≤ q1 ∧ q1 ≤ z) : ∀ m q D q' D', q ≤ z → chn B z g k m q D = .ok (q', D') → q + D'.length ≤ q' + D.length ∧ q' ≤ z ∧ (z - q ≤ m → opK k (tkK B z q') = none) := by
  intro m
  induction m with
  | zero =>
    intro q D q' D' hq h
    unfold chn at h
    injection h with h
    injection h with h1 h2
    subst h1 h2
    refine ⟨Nat.le_refl _, hq, fun hz => ?_⟩
    have : tkK B z q = 0 := by
      unfold tkK
      rw [if_pos]
      have := (run_b isBl B z q).1
      have hBB : run isBl B z q = tkB B z q := rfl
      omega
    rw [this]
    unfold opK
    repeat' split
    all_goals first | rfl | omega
  | succ m ih =>
    intro q D q' D' hq h
    unfold chn at h
    split at h
    · rename_i e
      injection h with h
      injection h with h1 h2
      subst h1 h2
      exact ⟨Nat.le_refl _, hq, fun _ => e⟩
    · rename_i c e
      split at h
      · cases h
      · rename_i q2 D2 e2
        have ht := tk_end (B := B) hq
        have hlt := ht.2.2.1 (opK_ne e).1
        have h2 := hg _ _ _ ht.1 e2
        have h3 := ih q2 _ q' D' h2.2 h
        simp only [List.length_append, List.length_cons, List.length_nil] at h3
        exact ⟨by omega, h3.2.1, fun hz => h3.2.2 (by omega)⟩
theorem gr_len {B : Nat → Nat} {z : Nat} : ∀ n k o q q' D, q ≤ z → gr B z n k o q = .ok (q', D) → q + D.length ≤ q' ∧ q' ≤ z := by
  intro n
  induction n with
  | zero => intro k o q q' D _ h; cases h
  | succ n ih =>
    intro k o q q' D hq h
    have ht := tk_end (B := B) hq
    unfold gr at h
    split at h
    · unfold gNot at h
      split at h
      · rename_i hk
        have hlt := ht.2.2.1 (by omega)
        split at h
        · split at h
          · cases h
          · rename_i q1 D1 e1
            have h1 := ih _ _ _ _ _ ht.1 e1
            injection h with h
            injection h with g1 g2
            subst g1 g2
            simp only [List.length_append, List.length_cons, List.length_nil]
            omega
        · cases h
      · split at h
        · cases h
        · rename_i q1 D1 e1
          have h1 := ih _ _ _ _ _ hq e1
          split at h
          · rename_i hk
            have ht1 := tk_end (B := B) h1.2
            have hlt := ht1.2.2.1 (by omega)
            split at h
            · cases h
            · rename_i q2 D2 e2
              have h2 := ih _ _ _ _ _ ht1.1 e2
              injection h with h
              injection h with g1 g2
              subst g1 g2
              simp only [List.length_append, List.length_cons, List.length_nil]
              omega
          · injection h with h
            injection h with g1 g2
            subst g1 g2
            exact h1
    · split at h
      · unfold gOne at h
        split at h
        · have hlt := ht.2.2.1 (by omega)
          injection h with h
          injection h with g1 g2
          subst g1 g2
          simp only [List.length_cons, List.length_nil]
          omega
        · split at h
          · have hlt := ht.2.2.1 (by omega)
            injection h with h
            injection h with g1 g2
            subst g1 g2
            simp only [List.length_cons, List.length_nil]
            omega
          · split at h
            · have hlt := ht.2.2.1 (by omega)
              split at h
              · split at h
                · cases h
                · rename_i q1 D1 e1
                  have h1 := ih _ _ _ _ _ ht.1 e1
                  injection h with h
                  injection h with g1 g2
                  subst g1 g2
                  simp only [List.length_append, List.length_cons, List.length_nil]
                  omega
              · cases h
            · split at h
              · have hlt := ht.2.2.1 (by omega)
                split at h
                · split at h
                  · cases h
                  · rename_i q1 D1 e1
                    have h1 := ih _ _ _ _ _ ht.1 e1
                    split at h
                    · have ht1 := tk_end (B := B) h1.2
                      injection h with h
                      injection h with g1 g2
                      subst g1 g2
                      omega
                    · cases h
                · cases h
              · cases h
      · split at h
        · cases h
        · rename_i q1 D1 e1
          have h1 := ih _ _ _ _ _ hq e1
          have h2 := chn_len (fun a b c => ih (k + 1) o a b c) 160 q1 D1 q' D h1.2 h
          omega

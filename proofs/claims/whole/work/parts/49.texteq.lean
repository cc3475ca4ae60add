-- what the texts say, on both sides
def offP (P : zP) (t : Nat) : Nat → Nat
  | 0 => 0
  | p + 1 => offP P t p + (P t p).length
def nm6 (x0 x1 x2 x3 x4 x5 : Int32) : Nat → Int32 := fun j => if j = 0 then x0 else if j = 1 then x1 else if j = 2 then x2 else if j = 3 then x3 else if j = 4 then x4 else x5
def evP (P : zP) : zEv := fun t p x0 x1 x2 x3 x4 x5 => (evS (nm6 x0 x1 x2 x3 x4 x5) (P t p) []).headD 0
def okP (P : zP) (K : Nat) : Prop := K ≤ 6 ∧ ∀ t, t < K → offP P t 3 ≤ 160 ∧ ∀ p, p < 3 → dpS (P t p) 0 = some 1 ∧ ∀ v, v ∈ P t p → tokOk v
def txC (P : zP) (K : Nat) (s : zMem) : Prop := ∀ t, t < K → ∀ p, p < 3 → s 3 (3 * t + p) = nI (offP P t (p + 1)) ∧ cdC s (160 * t + offP P t p) (P t p)
def txM (P : zP) (K : Nat) (s : zMem) : Prop := ∀ t, t < K → ∀ p, p < 3 → s 57 (4 * t + p) = nI (offP P t p) ∧ s 57 (4 * t + p + 1) = nI (offP P t (p + 1)) ∧ cdM s (200 * t + offP P t p) (P t p)
theorem evS_congr {x y : Nat → Int32} (h : ∀ j, j < 6 → x j = y j) : ∀ (l : List Nat) (st : List Int32), evS x l st = evS y l st := by
  intro l
  induction l with
  | nil => intro st; rfl
  | cons v l ih =>
    intro st
    have e : ev1 x v st = ev1 y v st := by
      unfold ev1
      by_cases q : v < 6
      · rw [if_pos q, if_pos q, h v q]
      · rw [if_neg q, if_neg q]
    rw [evS, evS, e, ih]
theorem nm6_eq (x : Nat → Int32) : ∀ j, j < 6 → x j = nm6 (x 0) (x 1) (x 2) (x 3) (x 4) (x 5) j := by
  intro j hj
  rcases (by omega : j = 0 ∨ j = 1 ∨ j = 2 ∨ j = 3 ∨ j = 4 ∨ j = 5) with rfl | rfl | rfl | rfl | rfl | rfl <;> rfl
theorem offP_le {P : zP} {t p : Nat} (hp : p < 3) : offP P t p + (P t p).length ≤ offP P t 3 := by
  have e3 : offP P t 3 = offP P t 2 + (P t 2).length := rfl
  have e2 : offP P t 2 = offP P t 1 + (P t 1).length := rfl
  have e1 : offP P t 1 = offP P t 0 + (P t 0).length := rfl
  rcases (by omega : p = 0 ∨ p = 1 ∨ p = 2) with rfl | rfl | rfl <;> omega
theorem zEC_of {P : zP} {K : Nat} {s : zMem} (ok : okP P K) (h : txC P K s) : zEC (evP P) K s := by
  intro t p a U ht hp ha hU
  have o := ok.2 t ht
  have ol := offP_le (P := P) (t := t) hp
  obtain ⟨hd, hv⟩ := o.2 p hp
  have h6 := ok.1
  have hc : cdC U (160 * t + offP P t p) (P t p) := cdC.of (fun k => hU 2 k (by omega)) (h t ht p hp).2
  have he : U 3 (3 * t + p) = nI (offP P t (p + 1)) := by rw [hU 3 _ (by omega)]; exact (h t ht p hp).1
  have e1 : offP P t (p + 1) = offP P t p + (P t p).length := rfl
  have m3 : nI t * 3 + nI p = nI (3 * t + p) := by rw [← zn3, nI_mul, nI_add, show t * 3 + p = 3 * t + p by omega]
  have m160 : nI t * 160 = nI (160 * t) := by rw [show (160 : Int32) = nI 160 from rfl, nI_mul, show t * 160 = 160 * t by omega]
  have key : f_X4_valueOf a (nI t) (nI p) U = f_X4_valueOf_53 a (fun x72 s73 => if x72 ≤ 0 then some (0, s73) else gd (zib 0 160) <| some (s73 4 (zix 0), s73)) zN (nI (160 * t + offP P t p + (P t p).length)) 0 (nI (160 * t + offP P t p)) U := by
    unfold f_X4_valueOf
    have base : ∀ x : Nat, x = offP P t p → f_X4_valueOf_25 a (nI t) (nI p) (nI x) (nI t * 160) U = f_X4_valueOf_53 a (fun x72 s73 => if x72 ≤ 0 then some (0, s73) else gd (zib 0 160) <| some (s73 4 (zix 0), s73)) zN (nI (160 * t + offP P t p + (P t p).length)) 0 (nI (160 * t + offP P t p)) U := by
      intro x hx
      unfold f_X4_valueOf_25
      rw [m160, nI_add, nm_eq, m3, gd_t (zib_nI (by omega) (by decide)), zix_nI (by omega), he, nI_add, nm_eq, hx, e1, show 160 * t + (offP P t p + (P t p).length) = 160 * t + offP P t p + (P t p).length by omega]
    by_cases q : p = 0
    · subst q
      rw [if_pos (by rfl)]
      exact base 0 rfl
    · have hi : nI t * 3 + nI p - 1 = nI (3 * t + (p - 1)) := by
        rw [m3, ← zn1, nI_sub (by omega), show 3 * t + p - 1 = 3 * t + (p - 1) by omega]
      have he0 : U 3 (3 * t + (p - 1)) = nI (offP P t p) := by
        rw [hU 3 _ (by omega), (h t ht (p - 1) (by omega)).1, show p - 1 + 1 = p by omega]
      rw [if_neg (fun z : nI p = 0 => q ((nI_eq (b := 0) (by omega) (by omega)).mp z)), hi, gd_t (zib_nI (by omega) (by decide)), zix_nI (by omega), he0]
      exact base _ rfl
  obtain ⟨S, g1, g2, g3, g4⟩ := k_eval ha (c := fun x72 s73 => if x72 ≤ 0 then some (0, s73) else gd (zib 0 160) <| some (s73 4 (zix 0), s73)) (P t p) zN (160 * t + offP P t p) 1 [] U hc hv trivial hd (by simp; omega) (by omega) (by unfold zN; omega)
  rw [List.length_nil, zn0] at g1
  refine ⟨S, ?_⟩
  rw [key, g1, if_neg (by decide), gd_t (c := zib 0 160) rfl]
  congr 2
  unfold evP
  rw [← evS_congr (nm6_eq (U a))]
  match hst : evS (U a) (P t p) [], g2, g3 with
  | [], _, g3 => simp at g3
  | x :: u, g2, g3 =>
    simp only [List.length_cons] at g3
    have hu : u.length = 0 := by omega
    have := g2.1
    rw [hu] at this
    exact this
theorem zEM_of {P : zP} {K : Nat} {s : zMem} (ok : okP P K) (h : txM P K s) : zEM (evP P) K s := by
  intro t p U ht hp h15 hU
  have o := ok.2 t ht
  have ol := offP_le (P := P) (t := t) hp
  obtain ⟨hd, hv⟩ := o.2 p hp
  have h6 := ok.1
  obtain ⟨c1, c2, c3⟩ := h t ht p hp
  have hc : cdM U (200 * t + offP P t p) (P t p) := cdM.of (fun k => hU 56 k (by omega)) c3
  have e1 : offP P t (p + 1) = offP P t p + (P t p).length := rfl
  have m4 : (4 : Int32) * nI t + nI p = nI (4 * t + p) := by rw [show (4 : Int32) = nI 4 from rfl, nI_mul, nI_add]
  unfold f_X7_says
  rw [h15, m4, gd_t (zib_nI (by omega) (by decide)), zix_nI (by omega), hU 57 _ (by omega), c1, nm_eq]
  obtain ⟨S, g1, g2, g3⟩ := m_eval (m := 0) (by omega : t < 6) hp (P t p) zN (offP P t p) 1 [] U h15 (by rw [hU 57 _ (by omega), c2, e1]) hc hv trivial hd rfl (by simp; omega) (by omega) (by unfold zN; omega)
  rw [List.length_nil, zn0] at g1
  refine ⟨S, ?_⟩
  rw [g1]
  congr 2
  unfold evP
  rw [← evS_congr (nm6_eq (U 67))]
  match hst : evS (U 67) (P t p) [], g2, g3 with
  | [], _, g3 => simp at g3
  | x :: u, g2, g3 =>
    simp only [List.length_cons] at g3
    have hu : u.length = 0 := by omega
    have := g2.1
    rw [hu] at this
    exact this

-- debts: all set off
abbrev vI (n : Int) : Int32 := Int32.ofInt n
theorem vI_to {n : Int} (h1 : -1000000000 ≤ n) (h2 : n ≤ 1000000000) : (vI n).toInt = n := Int32.toInt_ofInt_of_le (by omega) (by omega)
theorem vI_le {a b : Int} (a1 : -1000000000 ≤ a) (a2 : a ≤ 1000000000) (b1 : -1000000000 ≤ b) (b2 : b ≤ 1000000000) : vI a ≤ vI b ↔ a ≤ b := by
  rw [Int32.le_iff_toInt_le, vI_to a1 a2, vI_to b1 b2]
theorem vI_lt {a b : Int} (a1 : -1000000000 ≤ a) (a2 : a ≤ 1000000000) (b1 : -1000000000 ≤ b) (b2 : b ≤ 1000000000) : vI a < vI b ↔ a < b := by
  rw [Int32.lt_iff_toInt_lt, vI_to a1 a2, vI_to b1 b2]
theorem vI_nI (n : Nat) : vI (n : Int) = nI n := Int32.ofInt_eq_ofNat
abbrev zNt : Type := Nat → Int
def nU (N : zNt) (j : Nat) (v : Int) : zNt := fun i => if i = j then v else N i
def lstF (N : zNt) : Nat → Nat → Nat → Nat
  | 0, _, l => l
  | r + 1, i, l => lstF N r (i + 1) (if N i < N l then i else l)
def mstF (N : zNt) : Nat → Nat → Nat → Nat
  | 0, _, m => m
  | r + 1, i, m => mstF N r (i + 1) (if N m < N i then i else m)
theorem lstF_s {N : zNt} {H : Nat} : ∀ (r i l : Nat), i + r = H → l < H → (∀ k, k < i → N l ≤ N k) → lstF N r i l < H ∧ ∀ k, k < H → N (lstF N r i l) ≤ N k := by
  intro r
  induction r with
  | zero => intro i l hi hl h; exact ⟨hl, fun k hk => h k (by omega)⟩
  | succ r ih =>
    intro i l hi hl h
    unfold lstF
    by_cases c : N i < N l
    · rw [if_pos c]
      refine ih (i + 1) i (by omega) (by omega) (fun k hk => ?_)
      by_cases e : k = i
      · rw [e]; exact Int.le_refl _
      · have := h k (by omega); omega
    · rw [if_neg c]
      refine ih (i + 1) l (by omega) hl (fun k hk => ?_)
      by_cases e : k = i
      · rw [e]; omega
      · exact h k (by omega)
theorem mstF_s {N : zNt} {H : Nat} : ∀ (r i m : Nat), i + r = H → m < H → (∀ k, k < i → N k ≤ N m) → mstF N r i m < H ∧ ∀ k, k < H → N k ≤ N (mstF N r i m) := by
  intro r
  induction r with
  | zero => intro i m hi hm h; exact ⟨hm, fun k hk => h k (by omega)⟩
  | succ r ih =>
    intro i m hi hm h
    unfold mstF
    by_cases c : N m < N i
    · rw [if_pos c]
      refine ih (i + 1) i (by omega) (by omega) (fun k hk => ?_)
      by_cases e : k = i
      · rw [e]; exact Int.le_refl _
      · have := h k (by omega); omega
    · rw [if_neg c]
      refine ih (i + 1) m (by omega) hm (fun k hk => ?_)
      by_cases e : k = i
      · rw [e]; omega
      · exact h k (by omega)
def lsN (N : zNt) (H : Nat) : Nat := lstF N (H - 1) 1 0
def msN (N : zNt) (H : Nat) : Nat := mstF N (H - 1) 1 0
def pyN (N : zNt) (H : Nat) : Int := if N (msN N H) < -N (lsN N H) then N (msN N H) else -N (lsN N H)
def stN (N : zNt) (H : Nat) : zNt := nU (nU N (lsN N H) (N (lsN N H) + pyN N H)) (msN N H) (nU N (lsN N H) (N (lsN N H) + pyN N H) (msN N H) - pyN N H)
def payR (H : Nat) : Nat → zNt → Int32 → Int32 → Int32 × Int32
  | 0, _, c, t => (c, t)
  | k + 1, N, c, t => if N (lsN N H) < 0 then payR H k (stN N H) (c + 1) (t + vI (pyN N H)) else (c, t)
def sI (N : zNt) : Nat → Int
  | 0 => 0
  | n + 1 => sI N n + N n
theorem sI_up {N : zNt} {j : Nat} {v : Int} : ∀ n, sI (nU N j v) n = if j < n then sI N n + (v - N j) else sI N n := by
  intro n
  induction n with
  | zero => rfl
  | succ n ih =>
    show sI (nU N j v) n + nU N j v n = _
    rw [ih]
    unfold nU
    by_cases c : j = n
    · subst c
      rw [if_neg (by omega), if_pos rfl, if_pos (by omega)]
      show _ = sI N j + N j + (v - N j)
      omega
    · rw [if_neg (show ¬ n = j from fun r => c r.symm)]
      by_cases d : j < n
      · rw [if_pos d, if_pos (by omega)]
        show _ = sI N n + N n + (v - N j)
        omega
      · rw [if_neg d, if_neg (by omega)]
        rfl
theorem sI_neg {N : zNt} : ∀ n, (∀ k, k < n → N k ≤ 0) → sI N n ≤ 0 ∧ ∀ j, j < n → sI N n ≤ N j := by
  intro n
  induction n with
  | zero => intro _; exact ⟨Int.le_refl _, fun j hj => by omega⟩
  | succ n ih =>
    intro h
    obtain ⟨h1, h2⟩ := ih (fun k hk => h k (by omega))
    have hn := h n (by omega)
    refine ⟨?_, fun j hj => ?_⟩
    · show sI N n + N n ≤ 0
      omega
    · show sI N n + N n ≤ N j
      by_cases c : j = n
      · subst c; omega
      · have := h2 j (by omega); omega
def nOk (N : zNt) (H : Nat) : Prop := sI N H = 0 ∧ ∀ i, i < H → -99990 ≤ N i ∧ N i ≤ 99990
theorem stN_ok {N : zNt} {H : Nat} (h : nOk N H) (hH : 0 < H) (hl : N (lsN N H) < 0) : nOk (stN N H) H ∧ lsN N H < H ∧ msN N H < H ∧ lsN N H ≠ msN N H ∧ 0 < N (msN N H) ∧ 0 < pyN N H ∧ pyN N H ≤ 99990 ∧ (stN N H (lsN N H) = 0 ∨ stN N H (msN N H) = 0) ∧ ∀ i, i ≠ lsN N H → i ≠ msN N H → stN N H i = N i := by
  obtain ⟨a1, a2⟩ := lstF_s (N := N) (H := H) (H - 1) 1 0 (by omega) hH (fun k hk => by rw [show k = 0 by omega]; exact Int.le_refl _)
  obtain ⟨b1, b2⟩ := mstF_s (N := N) (H := H) (H - 1) 1 0 (by omega) hH (fun k hk => by rw [show k = 0 by omega]; exact Int.le_refl _)
  have a1' : lsN N H < H := a1
  have b1' : msN N H < H := b1
  have b2' : ∀ k, k < H → N k ≤ N (msN N H) := b2
  have hm : 0 < N (msN N H) := by
    by_cases c : 0 < N (msN N H)
    · exact c
    · have := (sI_neg (N := N) H (fun k hk => by have := b2' k hk; omega)).2 _ a1'
      have := h.1
      omega
  have hne : lsN N H ≠ msN N H := fun r => by rw [r] at hl; omega
  have hbl := h.2 _ a1'
  have hbm := h.2 _ b1'
  have hp : 0 < pyN N H ∧ pyN N H ≤ N (msN N H) ∧ pyN N H ≤ -N (lsN N H) ∧ (pyN N H = N (msN N H) ∨ pyN N H = -N (lsN N H)) := by
    unfold pyN
    split <;> omega
  have el : stN N H (lsN N H) = N (lsN N H) + pyN N H := by
    unfold stN nU
    rw [if_neg hne, if_pos rfl]
  have em : stN N H (msN N H) = N (msN N H) - pyN N H := by
    unfold stN nU
    rw [if_pos rfl, if_neg (fun r => hne r.symm)]
  have eo : ∀ i, i ≠ lsN N H → i ≠ msN N H → stN N H i = N i := by
    intro i h1 h2
    unfold stN nU
    rw [if_neg h2, if_neg h1]
  refine ⟨⟨?_, fun i hi => ?_⟩, a1', b1', hne, hm, hp.1, by omega, by rw [el, em]; omega, eo⟩
  · unfold stN
    rw [sI_up, if_pos b1', sI_up, if_pos a1', h.1]
    omega
  · by_cases c1 : i = lsN N H
    · rw [c1, el]; omega
    · by_cases c2 : i = msN N H
      · rw [c2, em]; omega
      · rw [eo i c1 c2]; exact h.2 i hi
def nzN (N : zNt) (H : Nat) : Nat := tS (fun i => if N i = 0 then 0 else 1) H
theorem tS_le {f g : Nat → Nat} : ∀ n, (∀ i, i < n → f i ≤ g i) → tS f n ≤ tS g n := by
  intro n
  induction n with
  | zero => intro _; exact Nat.le_refl _
  | succ n ih =>
    intro h
    have := ih (fun i hi => h i (by omega))
    have := h n (by omega)
    show tS f n + f n ≤ tS g n + g n
    omega
theorem tS_lt {f g : Nat → Nat} {j : Nat} : ∀ n, (∀ i, i < n → f i ≤ g i) → j < n → f j + 1 ≤ g j → tS f n + 1 ≤ tS g n := by
  intro n
  induction n with
  | zero => intro _ h; omega
  | succ n ih =>
    intro h hj hf
    have hn := h n (by omega)
    show tS f n + f n + 1 ≤ tS g n + g n
    by_cases c : j = n
    · subst c
      have := tS_le (f := f) (g := g) j (fun i hi => h i (by omega))
      omega
    · have := ih (fun i hi => h i (by omega)) (by omega) hf
      omega
theorem nzN_st {N : zNt} {H : Nat} (h : nOk N H) (hH : 0 < H) (hl : N (lsN N H) < 0) : nzN (stN N H) H + 1 ≤ nzN N H := by
  obtain ⟨_, a1, b1, hne, hm, _, _, hz, eo⟩ := stN_ok h hH hl
  have hall : ∀ i, i < H → (if stN N H i = 0 then 0 else 1) ≤ (if N i = 0 then 0 else 1) := by
    intro i hi
    by_cases c1 : i = lsN N H
    · have : ¬ N i = 0 := by rw [c1]; omega
      rw [if_neg this]
      split <;> omega
    · by_cases c2 : i = msN N H
      · have : ¬ N i = 0 := by rw [c2]; omega
        rw [if_neg this]
        split <;> omega
      · rw [eo i c1 c2]
        exact Nat.le_refl _
  rcases hz with hz | hz
  · exact tS_lt (j := lsN N H) H hall a1 (by rw [if_pos hz, if_neg (by omega)]; omega)
  · exact tS_lt (j := msN N H) H hall b1 (by rw [if_pos hz, if_neg (by omega)]; omega)
theorem nzN_0 {N : zNt} : ∀ H, nzN N H = 0 → ∀ i, i < H → N i = 0 := by
  intro H
  induction H with
  | zero => intro _ i hi; omega
  | succ H ih =>
    intro h i hi
    have h2 : nzN N H + (if N H = 0 then 0 else 1) = 0 := h
    by_cases c : N H = 0
    · rw [if_pos c] at h2
      by_cases e : i = H
      · rw [e]; exact c
      · exact ih (by omega) i (by omega)
    · rw [if_neg c] at h2
      omega
-- the class
def kNt (a : Nat) (s : zMem) (N : zNt) (H : Nat) : Prop := ∀ i, i < H → s a i = vI (N i)
theorem k_payL {N : zNt} {H : Nat} {s : zMem} {c : Int32 → Int32 → zMem → Option (Int32 × zMem)} (e9 : s 9 9 = nI H) (h6 : H ≤ 6) (hN : kNt 46 s N H) (ok : nOk N H) : ∀ (n i l m : Nat), i ≤ H ∨ i = 1 → H - i < n → l < H → m < H → f_X6_payOnce_6 c n (nI l) (nI m) (nI i) s = c (nI (lstF N (H - i) i l)) (nI (mstF N (H - i) i m)) s := by
  intro n
  induction n with
  | zero => intro i l m _ hn; omega
  | succ n ih =>
    intro i l m hi hn hl hm
    rw [f_X6_payOnce_6, e9]
    by_cases q : H ≤ i
    · rw [if_pos (nI_le q (by omega)), show H - i = 0 by omega]
      rfl
    · have bi := ok.2 i (by omega)
      have bl := ok.2 l hl
      have bm := ok.2 m hm
      have g : ∀ j, j < H → zib (nI j) 6 = true := fun j hj => zib_nI (by omega) (by decide)
      have x : ∀ j, j < H → zix (nI j) = j := fun j hj => zix_nI (by omega)
      rw [if_neg (nI_ge (by omega) (by omega)), gd_t (g i (by omega)), gd_t (g l hl), x i (by omega), x l hl, hN i (by omega), hN l hl, show H - i = (H - (i + 1)) + 1 by omega]
      unfold lstF mstF
      have go := ih (i + 1)
      by_cases c1 : N i < N l
      · rw [if_neg (fun r => by have := (vI_le (by omega) (by omega) (by omega) (by omega)).mp r; omega), if_pos c1, gd_t (g i (by omega)), gd_t (g m hm), x m hm, hN m hm]
        by_cases c2 : N m < N i
        · rw [if_neg (fun r => by have := (vI_le (by omega) (by omega) (by omega) (by omega)).mp r; omega), if_pos c2, nm_eq, nI_1]
          exact go _ _ (by omega) (by omega) (by omega) (by omega)
        · rw [if_pos ((vI_le (by omega) (by omega) (by omega) (by omega)).mpr (by omega)), if_neg c2, nm_eq, nI_1]
          exact go _ _ (by omega) (by omega) (by omega) (by omega)
      · rw [if_pos ((vI_le (by omega) (by omega) (by omega) (by omega)).mpr (by omega)), if_neg c1, gd_t (g i (by omega)), gd_t (g m hm), x m hm, hN m hm]
        by_cases c2 : N m < N i
        · rw [if_neg (fun r => by have := (vI_le (by omega) (by omega) (by omega) (by omega)).mp r; omega), if_pos c2, nm_eq, nI_1]
          exact go _ _ (by omega) (by omega) (by omega) (by omega)
        · rw [if_pos ((vI_le (by omega) (by omega) (by omega) (by omega)).mpr (by omega)), if_neg c2, nm_eq, nI_1]
          exact go _ _ (by omega) (by omega) (by omega) (by omega)
theorem k_pay {N : zNt} {H : Nat} {s : zMem} (e9 : s 9 9 = nI H) (h6 : H ≤ 6) (hH : 0 < H) (hN : kNt 46 s N H) (ok : nOk N H) : (N (lsN N H) < 0 → ∃ S, f_X6_payOnce s = some (vI (pyN N H), S) ∧ kNt 46 S (stN N H) H) ∧ (¬ N (lsN N H) < 0 → f_X6_payOnce s = some (0, s)) := by
  have a1 : lsN N H < H := (lstF_s (N := N) (H := H) (H - 1) 1 0 (by omega) hH (fun k hk => by rw [show k = 0 by omega]; exact Int.le_refl _)).1
  have b := mstF_s (N := N) (H := H) (H - 1) 1 0 (by omega) hH (fun k hk => by rw [show k = 0 by omega]; exact Int.le_refl _)
  have b1 : msN N H < H := b.1
  have b2 : ∀ k, k < H → N k ≤ N (msN N H) := b.2
  have bl := ok.2 _ a1
  have bm := ok.2 _ b1
  have e := k_payL (c := fun x9 x10 s11 => gd (zib x9 6) <| gd (zib x10 6) <| nm (zmin (-(s11 46 (zix x9))) (s11 46 (zix x10))) fun x12 => if 0 < x12 then gd (zib x9 6) <| gd (zib x9 6) <| nm (zUp s11 46 (zix x9) ((s11 46 (zix x9)) + x12)) fun s13 => gd (zib x10 6) <| gd (zib x10 6) <| nm (zUp s13 46 (zix x10) ((s13 46 (zix x10)) - x12)) fun s14 => some (x12, s14) else some (0, s11)) e9 h6 hN ok zN 1 0 0 (Or.inr rfl) (by unfold zN; omega) hH hH
  have gl : zib (nI (lsN N H)) 6 = true := zib_nI (by omega) (by decide)
  have gm : zib (nI (msN N H)) 6 = true := zib_nI (by omega) (by decide)
  have xl : zix (nI (lsN N H)) = lsN N H := zix_nI (by omega)
  have xm : zix (nI (msN N H)) = msN N H := zix_nI (by omega)
  have el : lstF N (H - 1) 1 0 = lsN N H := rfl
  have em : mstF N (H - 1) 1 0 = msN N H := rfl
  have en : -vI (N (lsN N H)) = vI (-N (lsN N H)) := (Int32.ofInt_neg _).symm
  have ez : zmin (vI (-N (lsN N H))) (vI (N (msN N H))) = vI (pyN N H) := by
    unfold zmin pyN
    by_cases c : N (msN N H) < -N (lsN N H)
    · rw [if_pos ((vI_lt (by omega) (by omega) (by omega) (by omega)).mpr c), if_pos c]
    · rw [if_neg (fun r => c ((vI_lt (by omega) (by omega) (by omega) (by omega)).mp r)), if_neg c]
  have e2 : f_X6_payOnce s = (if 0 < vI (pyN N H) then gd (zib (nI (lsN N H)) 6) <| gd (zib (nI (lsN N H)) 6) <| nm (zUp s 46 (lsN N H) (vI (N (lsN N H)) + vI (pyN N H))) fun s13 => gd (zib (nI (msN N H)) 6) <| gd (zib (nI (msN N H)) 6) <| nm (zUp s13 46 (msN N H) ((s13 46 (msN N H)) - vI (pyN N H))) fun s14 => some (vI (pyN N H), s14) else some (0, s)) := by
    refine e.trans ?_
    rw [el, em, gd_t gl, gd_t gm, xl, xm, hN _ a1, hN _ b1, en, ez, nm_eq]
  have hpb : pyN N H ≤ 99990 ∧ -99990 ≤ pyN N H := by unfold pyN; split <;> omega
  refine ⟨fun hl => ?_, fun hl => ?_⟩
  · obtain ⟨_, _, _, hne, _, hp, _, _, _⟩ := stN_ok ok hH hl
    have p0 : (0 : Int32) < vI (pyN N H) := (vI_lt (a := 0) (by omega) (by omega) (by omega) (by omega)).mpr hp
    have v1 : zUp s 46 (lsN N H) (vI (N (lsN N H)) + vI (pyN N H)) 46 (msN N H) = vI (N (msN N H)) := by rw [zUp_off (by omega), hN _ b1]
    rw [e2, if_pos p0, gd_t gl, gd_t gl, nm_eq, gd_t gm, gd_t gm, nm_eq, v1]
    refine ⟨_, rfl, fun i hi => ?_⟩
    rw [← Int32.ofInt_add, ← Int32.ofInt_sub, zUp_at, zUp_at]
    unfold stN nU
    by_cases c2 : i = msN N H
    · rw [if_pos ⟨rfl, c2⟩, if_pos c2, if_neg (fun r => hne r.symm)]
    · rw [if_neg (fun r => c2 r.2), if_neg c2]
      by_cases c1 : i = lsN N H
      · rw [if_pos ⟨rfl, c1⟩, if_pos c1]
      · rw [if_neg (fun r => c1 r.2), if_neg c1, hN i hi]
  · have hp : pyN N H ≤ 0 := by unfold pyN; split <;> omega
    rw [e2, if_neg (fun r => by have := (vI_lt (a := 0) (by omega) (by omega) (by omega) (by omega)).mp r; omega)]
theorem payR_stop {H : Nat} {N : zNt} {c t : Int32} (h : ¬ N (lsN N H) < 0) : ∀ k, payR H k N c t = (c, t) := by
  intro k
  cases k with
  | zero => rfl
  | succ k => unfold payR; rw [if_neg h]
theorem k_settleL {H : Nat} {cc : Int32 → Int32 → Int32 → zMem → Option (Int32 × zMem)} {x : Int32} (h6 : H ≤ 6) : ∀ (n i : Nat) (N : zNt) (c t : Int32) (s : zMem), s 9 9 = nI H → kNt 46 s N H → nOk N H → i ≤ H → H - i < n → ∃ S, f_X6_settle_49 cc n x c t (nI i) s = cc x (payR H (H - i) N c t).1 (payR H (H - i) N c t).2 S := by
  intro n
  induction n with
  | zero => intro i N c t s _ _ _ _ hn; omega
  | succ n ih =>
    intro i N c t s e9 hN ok hi hn
    rw [f_X6_settle_49, e9]
    by_cases q : H ≤ i
    · rw [if_pos (nI_le q (by omega)), show H - i = 0 by omega]
      exact ⟨s, rfl⟩
    · obtain ⟨p1, p2⟩ := k_pay e9 h6 (by omega) hN ok
      rw [if_neg (nI_ge (by omega) (by omega)), show H - i = (H - (i + 1)) + 1 by omega]
      by_cases hl : N (lsN N H) < 0
      · obtain ⟨S1, d1, k1⟩ := p1 hl
        obtain ⟨ok2, _, _, _, _, hp, hp2, _, _⟩ := stN_ok ok (by omega) hl
        have p0 : ¬ vI (pyN N H) ≤ 0 := fun r => by
          have := (vI_le (b := 0) (by omega) (by omega) (by omega) (by omega)).mp r
          omega
        unfold payR
        rw [d1, bd_s, if_neg p0, if_pos hl, nm_eq, nm_eq, nm_eq, nI_1]
        exact ih (i + 1) _ _ _ S1 (by rw [fr_X6_payOnce 9 9 (by omega) rfl _ S1 d1, e9]) k1 ok2 (by omega) (by omega)
      · rw [p2 hl, bd_s, if_pos (by decide), nm_eq, nI_1, payR_stop hl]
        obtain ⟨S, e⟩ := ih (i + 1) N c t s e9 hN ok (by omega) (by omega)
        rw [payR_stop hl] at e
        exact ⟨S, e⟩
def ntT (T : zT) : zNt := fun h => (owedT T h : Int) - (owesT T h : Int)
theorem ntT_v (T : zT) (h : Nat) : nI (owedT T h) - nI (owesT T h) = vI (ntT T h) := by
  unfold ntT
  rw [← vI_nI, ← vI_nI]
  exact (Int32.ofInt_sub _ _).symm
theorem tS_one {H : Nat} (v j : Nat) : ∀ n, tS (fun h => if j = h then v else 0) n = if j < n then v else 0 := by
  intro n
  induction n with
  | zero => rfl
  | succ n ih =>
    show tS _ n + (if j = n then v else 0) = _
    rw [ih]
    by_cases c : j = n
    · rw [if_neg (show ¬ j < n by omega), if_pos c, if_pos (show j < n + 1 by omega)]; omega
    · by_cases d : j < n
      · rw [if_pos d, if_neg c, if_pos (show j < n + 1 by omega)]; omega
      · rw [if_neg d, if_neg c, if_neg (show ¬ j < n + 1 by omega)]
theorem tS_add (f g : Nat → Nat) : ∀ n, tS (fun i => f i + g i) n = tS f n + tS g n := by
  intro n
  induction n with
  | zero => rfl
  | succ n ih =>
    show tS _ n + (f n + g n) = (tS f n + f n) + (tS g n + g n)
    rw [ih]
    omega
theorem cw_sum {T : zT} {j H : Nat} : ∀ L, (∀ k, k < L → T j k < H) → tS (fun h => cwT T j h L) H = tS (T 7) L := by
  intro L
  induction L with
  | zero =>
    intro _
    have : ∀ n, tS (fun h => cwT T j h 0) n = 0 := by
      intro n
      induction n with
      | zero => rfl
      | succ n ih => show tS _ n + 0 = 0; rw [ih]
    exact this H
  | succ L ih =>
    intro h
    have e : (fun x => cwT T j x (L + 1)) = fun x => cwT T j x L + (if T j L = x then T 7 L else 0) := rfl
    rw [e, tS_add, ih (fun k hk => h k (by omega)), tS_one (H := H) (T 7 L) (T j L) H, if_pos (h L (by omega))]
    rfl
theorem sI_sub (f g : Nat → Nat) : ∀ n, sI (fun i => (f i : Int) - (g i : Int)) n = (tS f n : Int) - (tS g n : Int) := by
  intro n
  induction n with
  | zero => rfl
  | succ n ih =>
    show sI _ n + ((f n : Int) - (g n : Int)) = ((tS f n + f n : Nat) : Int) - ((tS g n + g n : Nat) : Int)
    rw [ih]
    omega
theorem cwT_le {T : zT} {j h L : Nat} (hc : ∀ k, k < L → T 7 k ≤ 9999) : cwT T j h L ≤ 9999 * L := by
  induction L with
  | zero => exact Nat.le_refl _
  | succ L ih =>
    have h1 := ih (fun k hk => hc k (by omega))
    have h2 := hc L (by omega)
    show cwT T j h L + (if T j L = h then T 7 L else 0) ≤ _
    split <;> omega
theorem ntT_ok {M : Nat} {T : zT} (hb : tBd M T) : nOk (ntT T) (T 9 0) := by
  have hl := hb.2.2.2.2.2.2
  have h10 := hb.2.1
  refine ⟨?_, fun i hi => ?_⟩
  · have e := sI_sub (owedT T) (owesT T) (T 9 0)
    have e1 : tS (owedT T) (T 9 0) = tS (T 7) (T 9 1) := cw_sum (T 9 1) (fun k hk => (hl k hk).1)
    have e2 : tS (owesT T) (T 9 0) = tS (T 7) (T 9 1) := cw_sum (T 9 1) (fun k hk => (hl k hk).2.1)
    rw [e1, e2] at e
    exact e.trans (by omega)
  · have a : owedT T i ≤ 9999 * T 9 1 := cwT_le (fun k hk => (hl k hk).2.2.1)
    have b : owesT T i ≤ 9999 * T 9 1 := cwT_le (fun k hk => (hl k hk).2.2.1)
    unfold ntT
    omega
theorem k_netL {M : Nat} {T : zT} {cc : Int32 → zMem → Option (Int32 × zMem)} {x : Int32} (hb : tBd M T) : ∀ (n i : Nat) (s : zMem), rC 9 s T → i ≤ T 9 0 → T 9 0 - i < n → kNt 46 s (ntT T) i → ∃ S, f_X6_settle_14 cc n x (nI i) s = cc x S ∧ kNt 46 S (ntT T) (T 9 0) ∧ S 9 9 = nI (T 9 0) := by
  intro n
  induction n with
  | zero => intro i s _ _ hn; omega
  | succ n ih =>
    intro i s hr hi hn hN
    have h6 := hb.1
    rw [f_X6_settle_14, show s 9 9 = nI (T 9 0) from hr.c0.1]
    by_cases q : T 9 0 ≤ i
    · rw [if_pos (nI_le q (by omega))]
      rw [show i = T 9 0 by omega] at hN
      exact ⟨s, rfl, hN, hr.c0.1⟩
    · have en : f_X6_net (nI i) s = some (vI (ntT T i), s) := by
        unfold f_X6_net
        rw [k_hutP _ hr.c0.1, bd_s, zif01, if_pos (ltP_t (by omega) (by omega)), k_isOwed hr hb (by omega), bd_s, k_owes hr hb (by omega), bd_s, ntT_v]
      rw [if_neg (nI_ge (by omega) (by omega)), en, bd_s, gd_t (zib_nI (by omega) (by decide)), zix_nI (by omega), nm_eq, nm_eq, nI_1]
      refine ih (i + 1) _ (hr.of (fun a k hk => zUp_off (by omega))) (by omega) (by omega) (fun k hk => ?_)
      by_cases c : k = i
      · rw [c, zUp_hit]
      · rw [zUp_off (by omega), hN k (by omega)]
-- the model
theorem m_netL {M : Nat} {T : zT} {cc : Int32 → zMem → Option (Int32 × zMem)} {x : Int32} (hb : tBd M T) : ∀ (n i : Nat) (s : zMem), rM s T → i ≤ T 9 0 → T 9 0 - i < n → kNt 69 s (ntT T) i → ∃ S, f_X7_settle_14 cc n x (nI i) s = cc x S ∧ kNt 69 S (ntT T) (T 9 0) ∧ S 47 0 = nI (T 9 0) ∧ ∀ a k, a ≠ 69 → S a k = s a k := by
  intro n
  induction n with
  | zero => intro i s _ _ hn; omega
  | succ n ih =>
    intro i s hr hi hn hN
    have h6 := hb.1
    rw [f_X7_settle_14, hr.c0.1]
    by_cases q : T 9 0 ≤ i
    · rw [if_pos (nI_le q (by omega))]
      rw [show i = T 9 0 by omega] at hN
      exact ⟨s, rfl, hN, hr.c0.1, fun _ _ _ => rfl⟩
    · rw [if_neg (nI_ge (by omega) (by omega)), m_owedTo hr hb (by omega), bd_s, m_owedBy hr hb (by omega), bd_s, ntT_v, gd_t (zib_nI (by omega) (by decide)), zix_nI (by omega), nm_eq, nm_eq, nI_1]
      obtain ⟨S, e, k1, k2, k3⟩ := ih (i + 1) (zUp s 69 i (vI (ntT T i))) (hr.of (fun a k hk => zUp_off (by omega))) (by omega) (by omega) (fun k hk => by
        by_cases c : k = i
        · rw [c, zUp_hit]
        · rw [zUp_off (by omega), hN k (by omega)])
      exact ⟨S, e, k1, k2, fun a k ha => by rw [k3 a k ha, zUp_off (by omega)]⟩
theorem m_payL {N : zNt} {H : Nat} {s : zMem} {c : Int32 → Int32 → Int32 → Int32 → Int32 → zMem → Option (Int32 × zMem)} {x y w : Int32} (e9 : s 47 0 = nI H) (h6 : H ≤ 6) (hN : kNt 69 s N H) (ok : nOk N H) : ∀ (n i l m : Nat), i ≤ 10 → H - i < n → l < H → m < H → f_X7_settle_66 c n x y w (nI l) (nI m) (nI i) s = c x y w (nI (lstF N (H - i) i l)) (nI (mstF N (H - i) i m)) s := by
  intro n
  induction n with
  | zero => intro i l m _ hn; omega
  | succ n ih =>
    intro i l m hi10 hn hl hm
    rw [f_X7_settle_66, e9]
    by_cases q : H ≤ i
    · rw [if_pos (nI_le q (by omega)), show H - i = 0 by omega]
      rfl
    · have bi := ok.2 i (by omega)
      have bl := ok.2 l hl
      have bm := ok.2 m hm
      have g : ∀ j, j < H → zib (nI j) 6 = true := fun j hj => zib_nI (by omega) (by decide)
      have x : ∀ j, j < H → zix (nI j) = j := fun j hj => zix_nI (by omega)
      rw [if_neg (nI_ge (by omega) (by omega)), gd_t (g i (by omega)), gd_t (g l hl), x i (by omega), x l hl, hN i (by omega), hN l hl, show H - i = (H - (i + 1)) + 1 by omega]
      unfold lstF mstF f_X7_settle_99
      have go := ih (i + 1)
      by_cases c1 : N i < N l
      · rw [if_neg (fun r => by have := (vI_le (by omega) (by omega) (by omega) (by omega)).mp r; omega), if_pos c1, gd_t (g i (by omega)), gd_t (g m hm), x i (by omega), x m hm, hN i (by omega), hN m hm]
        by_cases c2 : N m < N i
        · rw [if_neg (fun r => by have := (vI_le (by omega) (by omega) (by omega) (by omega)).mp r; omega), if_pos c2, nm_eq, nI_1]
          exact go _ _ (by omega) (by omega) (by omega) (by omega)
        · rw [if_pos ((vI_le (by omega) (by omega) (by omega) (by omega)).mpr (by omega)), if_neg c2, nm_eq, nI_1]
          exact go _ _ (by omega) (by omega) (by omega) (by omega)
      · rw [if_pos ((vI_le (by omega) (by omega) (by omega) (by omega)).mpr (by omega)), if_neg c1, gd_t (g i (by omega)), gd_t (g m hm), x i (by omega), x m hm, hN i (by omega), hN m hm]
        by_cases c2 : N m < N i
        · rw [if_neg (fun r => by have := (vI_le (by omega) (by omega) (by omega) (by omega)).mp r; omega), if_pos c2, nm_eq, nI_1]
          exact go _ _ (by omega) (by omega) (by omega) (by omega)
        · rw [if_pos ((vI_le (by omega) (by omega) (by omega) (by omega)).mpr (by omega)), if_neg c2, nm_eq, nI_1]
          exact go _ _ (by omega) (by omega) (by omega) (by omega)
theorem m_settleL {H : Nat} {cc : Int32 → Int32 → Int32 → zMem → Option (Int32 × zMem)} {x : Int32} (h6 : H ≤ 6) (hH : 0 < H) : ∀ (k n : Nat) (N : zNt) (c t : Int32) (s : zMem), s 47 0 = nI H → kNt 69 s N H → nOk N H → nzN N H ≤ k → k + 2 < n → ∃ S, f_X7_settle_52 cc n x c t 1 s = cc x (payR H k N c t).1 (payR H k N c t).2 S ∧ ∀ a k, a ≠ 69 → S a k = s a k := by
  intro k
  induction k with
  | zero =>
    intro n N c t s e9 hN ok hz hn
    cases n with
    | zero => omega
    | succ n =>
      cases n with
      | zero => omega
      | succ n =>
        have all := nzN_0 (N := N) H (by omega)
        have a1 : lsN N H < H := (lstF_s (N := N) (H := H) (H - 1) 1 0 (by omega) hH (fun k hk => by rw [show k = 0 by omega]; exact Int.le_refl _)).1
        have e := m_payL (c := fun x49 x50 x51 x52 x53 s54 => gd (zib x52 6) <| if 0 ≤ (s54 69 (zix x52)) then f_X7_settle_154 (fun x95 x96 x97 x98 s99 => f_X7_settle_52 cc (n + 1) x95 x96 x97 x98 s99) x49 x50 x51 x52 x53 s54 else if (s54 47 0) ≤ 0 then f_X7_settle_154 (fun x100 x101 x102 x103 s104 => f_X7_settle_52 cc (n + 1) x100 x101 x102 x103 s104) x49 x50 x51 x52 x53 s54 else f_X7_settle_155 (fun x105 x106 x107 x108 s109 => f_X7_settle_52 cc (n + 1) x105 x106 x107 x108 s109) x49 x50 x51 x52 x53 1 s54) (x := x) (y := c) (w := t) e9 h6 hN ok zN 1 0 0 (by omega) (by unfold zN; omega) hH hH
        have el : lstF N (H - 1) 1 0 = lsN N H := rfl
        have em : mstF N (H - 1) 1 0 = msN N H := rfl
        refine ⟨s, ?_, fun _ _ _ => rfl⟩
        rw [f_X7_settle_52, if_neg (by decide)]
        refine e.trans ?_
        rw [el, em, gd_t (zib_nI (by omega) (by decide)), zix_nI (by omega), hN _ a1, all _ a1, if_pos (by decide)]
        unfold f_X7_settle_154 f_X7_settle_155
        rw [if_pos rfl]
        dsimp only
        rw [f_X7_settle_52, if_pos rfl]
        rfl
  | succ k ih =>
    intro n N c t s e9 hN ok hz hn
    cases n with
    | zero => omega
    | succ n =>
      have a1 : lsN N H < H := (lstF_s (N := N) (H := H) (H - 1) 1 0 (by omega) hH (fun k hk => by rw [show k = 0 by omega]; exact Int.le_refl _)).1
      have b1 : msN N H < H := (mstF_s (N := N) (H := H) (H - 1) 1 0 (by omega) hH (fun k hk => by rw [show k = 0 by omega]; exact Int.le_refl _)).1
      have bl := ok.2 _ a1
      have bm := ok.2 _ b1
      have e := m_payL (c := fun x49 x50 x51 x52 x53 s54 => gd (zib x52 6) <| if 0 ≤ (s54 69 (zix x52)) then f_X7_settle_154 (fun x95 x96 x97 x98 s99 => f_X7_settle_52 cc n x95 x96 x97 x98 s99) x49 x50 x51 x52 x53 s54 else if (s54 47 0) ≤ 0 then f_X7_settle_154 (fun x100 x101 x102 x103 s104 => f_X7_settle_52 cc n x100 x101 x102 x103 s104) x49 x50 x51 x52 x53 s54 else f_X7_settle_155 (fun x105 x106 x107 x108 s109 => f_X7_settle_52 cc n x105 x106 x107 x108 s109) x49 x50 x51 x52 x53 1 s54) (x := x) (y := c) (w := t) e9 h6 hN ok zN 1 0 0 (by omega) (by unfold zN; omega) hH hH
      have el : lstF N (H - 1) 1 0 = lsN N H := rfl
      have em : mstF N (H - 1) 1 0 = msN N H := rfl
      have gl : zib (nI (lsN N H)) 6 = true := zib_nI (by omega) (by decide)
      have gm : zib (nI (msN N H)) 6 = true := zib_nI (by omega) (by decide)
      have xl : zix (nI (lsN N H)) = lsN N H := zix_nI (by omega)
      have xm : zix (nI (msN N H)) = msN N H := zix_nI (by omega)
      rw [f_X7_settle_52, if_neg (by decide)]
      by_cases hl : N (lsN N H) < 0
      · obtain ⟨ok2, _, _, hne, hm, hp, hp2, _, _⟩ := stN_ok ok hH hl
        have hz2 := nzN_st ok hH hl
        have en : -vI (N (lsN N H)) = vI (-N (lsN N H)) := (Int32.ofInt_neg _).symm
        have n0 : ¬ (0 : Int32) ≤ vI (N (lsN N H)) := fun r => by
          have := (vI_le (a := 0) (by omega) (by omega) (by omega) (by omega)).mp r
          omega
        have nH : ¬ nI H ≤ 0 := nI_nle hH (by omega)
        have v1 : zUp s 69 (lsN N H) (vI (N (lsN N H)) + vI (pyN N H)) 69 (msN N H) = vI (N (msN N H)) := by rw [zUp_off (by omega), hN _ b1]
        have fin : ∀ P : Int, P = pyN N H → ∃ S, f_X7_settle_198 (fun x80 x81 x82 x83 s84 => f_X7_settle_52 cc n x80 x81 x82 x83 s84) x c t 1 (nI (lsN N H)) (nI (msN N H)) (vI P) s = cc x (payR H (k + 1) N c t).1 (payR H (k + 1) N c t).2 S ∧ ∀ a k, a ≠ 69 → S a k = s a k := by
          intro P hP
          subst hP
          unfold f_X7_settle_198 payR
          rw [gd_t gl, gd_t gl, xl, hN _ a1, nm_eq, gd_t gm, gd_t gm, xm, v1, nm_eq, nm_eq, nm_eq, if_pos hl]
          have hN2 : kNt 69 (zUp (zUp s 69 (lsN N H) (vI (N (lsN N H)) + vI (pyN N H))) 69 (msN N H) (vI (N (msN N H)) - vI (pyN N H))) (stN N H) H := by
            intro i hi
            rw [← Int32.ofInt_add, ← Int32.ofInt_sub, zUp_at, zUp_at]
            unfold stN nU
            by_cases c2 : i = msN N H
            · rw [if_pos ⟨rfl, c2⟩, if_pos c2, if_neg (fun r => hne r.symm)]
            · rw [if_neg (fun r => c2 r.2), if_neg c2]
              by_cases c1 : i = lsN N H
              · rw [if_pos ⟨rfl, c1⟩, if_pos c1]
              · rw [if_neg (fun r => c1 r.2), if_neg c1, hN i hi]
          obtain ⟨S, e3, f3⟩ := ih n (stN N H) (c + 1) (t + vI (pyN N H)) _ (by rw [zUp_off (by omega), zUp_off (by omega), e9]) hN2 ok2 (by omega) (by omega)
          exact ⟨S, e3, fun a k ha => by rw [f3 a k ha, zUp_off (by omega), zUp_off (by omega)]⟩
        have goal : ∃ S, f_X7_settle_155 (fun x105 x106 x107 x108 s109 => f_X7_settle_52 cc n x105 x106 x107 x108 s109) x c t (nI (lsN N H)) (nI (msN N H)) 1 s = cc x (payR H (k + 1) N c t).1 (payR H (k + 1) N c t).2 S ∧ ∀ a k, a ≠ 69 → S a k = s a k := by
          unfold f_X7_settle_155
          rw [if_neg (by decide), gd_t gl, gd_t gm, xl, xm, hN _ a1, hN _ b1, en]
          by_cases c1 : N (msN N H) ≤ -N (lsN N H)
          · rw [if_pos ((vI_le (by omega) (by omega) (by omega) (by omega)).mpr c1), gd_t gm]
            exact fin _ (by unfold pyN; split <;> omega)
          · rw [if_neg (fun r => c1 ((vI_le (by omega) (by omega) (by omega) (by omega)).mp r)), gd_t gl]
            exact fin _ (by unfold pyN; rw [if_neg (by omega)])
        obtain ⟨S, e3, f3⟩ := goal
        refine ⟨S, ?_, f3⟩
        refine e.trans ?_
        rw [el, em, gd_t gl, xl, hN _ a1, if_neg n0, e9, if_neg nH]
        exact e3
      · refine ⟨s, ?_, fun _ _ _ => rfl⟩
        refine e.trans ?_
        rw [payR_stop hl, el, em, gd_t gl, xl, hN _ a1, if_pos (show (0 : Int32) ≤ vI (N (lsN N H)) from (vI_le (a := 0) (by omega) (by omega) (by omega) (by omega)).mpr (by omega))]
        unfold f_X7_settle_154 f_X7_settle_155
        cases n with
        | zero => omega
        | succ n =>
          rw [if_pos rfl]
          dsimp only
          rw [f_X7_settle_52, if_pos rfl]
theorem nzN_le {N : zNt} (H : Nat) : nzN N H ≤ H := by
  have h : ∀ n, nzN N n ≤ n := by
    intro n
    induction n with
    | zero => exact Nat.le_refl _
    | succ n ih =>
      show nzN N n + (if N n = 0 then 0 else 1) ≤ n + 1
      split <;> omega
  exact h H
theorem step_settle (p : Int32) : stepOk (f_X6_settle p) (f_X7_settle p) := by
  refine step_q (fun a k v s hk e => fr_X6_settle a k (by unfold cC at hk; omega) e) (fun a k v s hk e => fr_X7_settle a k (by omega) e) ?_
  intro T U P K F z B Z s hx hc
  have h6 := hx.1.1
  unfold f_X6_settle f_X7_settle
  rw [k_isFromTo, bd_s, zif01]
  by_cases c : 0 ≤ p ∧ p ≤ 1
  case neg =>
    rw [if_neg c]
    exact ⟨_, s, rfl, fun S hm => ⟨S, by rw [k_in, bd_s, zif01, if_neg c], fun _ _ _ => rfl⟩⟩
  rw [if_pos c]
  obtain ⟨S1, d1, n1, e1⟩ := k_netL (cc := fun x10 s11 => f_X6_settle_49 (fun x23 x24 x25 s26 => if x23 = 0 then some (x24, s26) else some (x25, s26)) zN x10 0 0 0 s11) (x := p) hx.1 zN 0 s hc.1 (by omega) (by unfold zN; omega) (fun i hi => by omega)
  obtain ⟨S2, d2⟩ := k_settleL (cc := fun x23 x24 x25 s26 => if x23 = 0 then some (x24, s26) else some (x25, s26)) (x := p) h6 zN 0 (ntT T) 0 0 S1 e1 n1 (ntT_ok hx.1) (by omega) (by unfold zN; omega)
  refine ⟨if p = 0 then (payR (T 9 0) (T 9 0) (ntT T) 0 0).1 else (payR (T 9 0) (T 9 0) (ntT T) 0 0).2, S2, d1.trans (d2.trans ite_out), fun S hm => ?_⟩
  rw [k_in, bd_s, zif01, if_pos c]
  obtain ⟨S3, d3, n3, e3, f3⟩ := m_netL (cc := fun x12 s13 => f_X7_settle_52 (fun x110 x111 x112 s113 => if x110 = 0 then some (x111, s113) else some (x112, s113)) zN x12 0 0 1 s13) (x := p) hx.1 zN 0 S hm.1 (by omega) (by unfold zN; omega) (fun i hi => by omega)
  by_cases hH : 0 < T 9 0
  · obtain ⟨S4, d4, f4⟩ := m_settleL (cc := fun x110 x111 x112 s113 => if x110 = 0 then some (x111, s113) else some (x112, s113)) (x := p) h6 hH (T 9 0) zN (ntT T) 0 0 S3 e3 n3 (ntT_ok hx.1) (nzN_le _) (by unfold zN; omega)
    exact ⟨S4, d3.trans (d4.trans ite_out), fun a k hk => by rw [f4 a k (by unfold cM at hk; omega), f3 a k (by unfold cM at hk; omega)]⟩
  · have h0 : T 9 0 = 0 := by omega
    refine ⟨S3, d3.trans ?_, fun a k hk => f3 a k (by unfold cM at hk; omega)⟩
    rw [h0] at e3 ⊢
    rw [show zN = 3998 + 1 + 1 from rfl, f_X7_settle_52, if_neg (by decide), show zN = 3999 + 1 from rfl, f_X7_settle_66, e3, if_pos (by decide), gd_t (c := zib 0 6) rfl]
    unfold f_X7_settle_154 f_X7_settle_155
    have fin : f_X7_settle_52 (fun x110 x111 x112 s113 => if x110 = 0 then some (x111, s113) else some (x112, s113)) (3998 + 1) p 0 0 0 S3 = some (if p = 0 then (payR 0 0 (ntT T) 0 0).1 else (payR 0 0 (ntT T) 0 0).2, S3) := by
      rw [f_X7_settle_52, if_pos rfl]
      exact ite_out
    by_cases c0 : (0 : Int32) ≤ S3 69 (zix 0)
    · rw [if_pos c0, if_pos rfl]
      exact fin
    · rw [if_neg c0, if_pos (by decide), if_pos rfl]
      exact fin

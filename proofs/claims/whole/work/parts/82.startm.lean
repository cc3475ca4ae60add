-- the model's constructor, in stages
def rdL (f : Nat → Int32) : Nat → List Int32 → Prop
  | _, [] => True
  | i, v :: r => f i = v ∧ rdL f (i + 1) r
theorem rdL_at {f : Nat → Int32} : ∀ (l : List Int32) (i : Nat), rdL f i l → ∀ k, k < l.length → f (i + k) = l.getD k 0 := by
  intro l
  induction l with
  | nil => intro i _ k hk; cases hk
  | cons v r ih =>
    intro i h k hk
    cases k with
    | zero => exact h.1
    | succ k =>
      simp only [List.length_cons] at hk
      have := ih (i + 1) h.2 k (by omega)
      rw [show i + (k + 1) = i + 1 + k by omega, this]
      rfl
def wrL (a : Nat) : Nat → List Int32 → zMem → zMem
  | _, [], s => s
  | i, v :: r, s => wrL a (i + 1) r (zUp s a i v)
theorem wrL_o {a : Nat} : ∀ (l : List Int32) (i : Nat) (s : zMem) (x k : Nat), (x ≠ a ∨ k < i ∨ i + l.length ≤ k) → wrL a i l s x k = s x k := by
  intro l
  induction l with
  | nil => intro i s x k _; rfl
  | cons v r ih =>
    intro i s x k h
    simp only [List.length_cons] at h
    show wrL a (i + 1) r (zUp s a i v) x k = _
    rw [ih (i + 1) _ x k (by omega), zUp_off (by omega)]
theorem wrL_at {a : Nat} : ∀ (l : List Int32) (i : Nat) (s : zMem) (k : Nat), k < l.length → wrL a i l s a (i + k) = l.getD k 0 := by
  intro l
  induction l with
  | nil => intro i s k hk; cases hk
  | cons v r ih =>
    intro i s k hk
    simp only [List.length_cons] at hk
    show wrL a (i + 1) r (zUp s a i v) a (i + k) = _
    cases k with
    | zero =>
      rw [wrL_o r (i + 1) _ a (i + 0) (by omega)]
      exact zUp_hit _ _ _ _
    | succ k =>
      rw [show i + (k + 1) = i + 1 + k by omega, ih (i + 1) _ k (by omega)]
      rfl
def nwL : List Nat → zMem → zMem
  | [], s => s
  | a :: r, s => nwL r (zNw s a)
theorem nwL_o : ∀ (l : List Nat) (s : zMem) (x k : Nat), x ∉ l → nwL l s x k = s x k := by
  intro l
  induction l with
  | nil => intro s x k _; rfl
  | cons a r ih =>
    intro s x k h
    show nwL r (zNw s a) x k = _
    rw [ih _ x k (fun q => h (List.mem_cons_of_mem _ q)), zNw_off (fun q => h (by rw [q]; exact List.mem_cons_self ..))]
theorem nwL_at : ∀ (l : List Nat) (s : zMem) (x k : Nat), x ∈ l → nwL l s x k = 0 := by
  intro l
  induction l with
  | nil => intro s x k h; cases h
  | cons a r ih =>
    intro s x k h
    show nwL r (zNw s a) x k = 0
    by_cases c : x ∈ r
    · exact ih _ x k c
    · rw [nwL_o r _ x k c]
      rcases List.mem_cons.mp h with rfl | h
      · exact zNw_hit _ _ _
      · exact absurd h c
def b0I : List Int32 := [103, 114, 111, 119, 115, 32, 49, 32, 43, 32, 99, 111, 97, 108, 32, 60, 32, 57, 57, 32, 59, 32, 99, 111, 111, 108, 115, 32, 50, 32, 59, 32, 98, 117, 114, 110, 115, 32, 49, 48, 32, 59]
def wdI : List Int32 := [103, 114, 111, 119, 115, 32, 32, 32, 99, 111, 111, 108, 115, 32, 32, 32, 98, 117, 114, 110, 115, 32, 32, 32, 104, 101, 97, 116, 32, 32, 32, 32, 119, 111, 111, 100, 32, 32, 32, 32, 110, 105, 103, 104, 116, 32, 32, 32, 99, 111, 97, 108, 32, 32, 32, 32, 111, 119, 101, 100, 32, 32, 32, 32, 109, 111, 114, 101, 32, 32, 32, 32, 111, 114, 32, 32, 32, 32, 32, 32, 97, 110, 100, 32, 32, 32, 32, 32, 110, 111, 116, 32, 32, 32, 32, 32]
def ini7 (s : zMem) : zMem := nwL [65, 66, 67, 68, 69] (wrL 64 0 wdI (nwL [64] (wrL 63 0 b0I (nwL [61, 62, 63] (wrL 60 0 [(-1), (-1), (-1), (-1)] (nwL [48, 49, 50, 51, 52, 53, 54, 55, 56, 57, 58, 59, 60] (s)))))))
set_option maxRecDepth 100000 in
set_option maxHeartbeats 4000000 in
theorem init7_eq (s : zMem) : f_X7_init s = f_X7_init_1016 (fun s169 => nm (zUp s169 47 11 42) fun s170 => bd (f_X7_text s170) fun r171 s172 => some ((), s172)) zN 0 (ini7 s) := by
  unfold f_X7_init
  rw [nm_eq, nm_eq, nm_eq, nm_eq, nm_eq, nm_eq, nm_eq, nm_eq, nm_eq, nm_eq, nm_eq, nm_eq]
  rw [nm_eq, gd_t (c := zib 0 4) rfl, nm_eq, gd_t (c := zib 1 4) rfl, nm_eq, gd_t (c := zib 2 4) rfl, nm_eq, gd_t (c := zib 3 4) rfl, nm_eq, nm_eq, nm_eq, nm_eq]
  rw [gd_t (c := zib 0 42) rfl, nm_eq, gd_t (c := zib 1 42) rfl, nm_eq, gd_t (c := zib 2 42) rfl, nm_eq, gd_t (c := zib 3 42) rfl, nm_eq, gd_t (c := zib 4 42) rfl, nm_eq, gd_t (c := zib 5 42) rfl, nm_eq]
  rw [gd_t (c := zib 6 42) rfl, nm_eq, gd_t (c := zib 7 42) rfl, nm_eq, gd_t (c := zib 8 42) rfl, nm_eq, gd_t (c := zib 9 42) rfl, nm_eq, gd_t (c := zib 10 42) rfl, nm_eq, gd_t (c := zib 11 42) rfl, nm_eq]
  rw [gd_t (c := zib 12 42) rfl, nm_eq, gd_t (c := zib 13 42) rfl, nm_eq, gd_t (c := zib 14 42) rfl, nm_eq, gd_t (c := zib 15 42) rfl, nm_eq, gd_t (c := zib 16 42) rfl, nm_eq, gd_t (c := zib 17 42) rfl, nm_eq]
  rw [gd_t (c := zib 18 42) rfl, nm_eq, gd_t (c := zib 19 42) rfl, nm_eq, gd_t (c := zib 20 42) rfl, nm_eq, gd_t (c := zib 21 42) rfl, nm_eq, gd_t (c := zib 22 42) rfl, nm_eq, gd_t (c := zib 23 42) rfl, nm_eq]
  rw [gd_t (c := zib 24 42) rfl, nm_eq, gd_t (c := zib 25 42) rfl, nm_eq, gd_t (c := zib 26 42) rfl, nm_eq, gd_t (c := zib 27 42) rfl, nm_eq, gd_t (c := zib 28 42) rfl, nm_eq, gd_t (c := zib 29 42) rfl, nm_eq]
  rw [gd_t (c := zib 30 42) rfl, nm_eq, gd_t (c := zib 31 42) rfl, nm_eq, gd_t (c := zib 32 42) rfl, nm_eq, gd_t (c := zib 33 42) rfl, nm_eq, gd_t (c := zib 34 42) rfl, nm_eq, gd_t (c := zib 35 42) rfl, nm_eq]
  rw [gd_t (c := zib 36 42) rfl, nm_eq, gd_t (c := zib 37 42) rfl, nm_eq, gd_t (c := zib 38 42) rfl, nm_eq, gd_t (c := zib 39 42) rfl, nm_eq, gd_t (c := zib 40 42) rfl, nm_eq, gd_t (c := zib 41 42) rfl, nm_eq]
  rw [nm_eq, gd_t (c := zib 0 96) rfl, nm_eq, gd_t (c := zib 1 96) rfl, nm_eq, gd_t (c := zib 2 96) rfl, nm_eq, gd_t (c := zib 3 96) rfl, nm_eq, gd_t (c := zib 4 96) rfl, nm_eq, gd_t (c := zib 5 96) rfl]
  rw [nm_eq, gd_t (c := zib 6 96) rfl, nm_eq, gd_t (c := zib 7 96) rfl, nm_eq, gd_t (c := zib 8 96) rfl, nm_eq, gd_t (c := zib 9 96) rfl, nm_eq, gd_t (c := zib 10 96) rfl, nm_eq, gd_t (c := zib 11 96) rfl]
  rw [nm_eq, gd_t (c := zib 12 96) rfl, nm_eq, gd_t (c := zib 13 96) rfl, nm_eq, gd_t (c := zib 14 96) rfl, nm_eq, gd_t (c := zib 15 96) rfl, nm_eq, gd_t (c := zib 16 96) rfl, nm_eq, gd_t (c := zib 17 96) rfl]
  rw [nm_eq, gd_t (c := zib 18 96) rfl, nm_eq, gd_t (c := zib 19 96) rfl, nm_eq, gd_t (c := zib 20 96) rfl, nm_eq, gd_t (c := zib 21 96) rfl, nm_eq, gd_t (c := zib 22 96) rfl, nm_eq, gd_t (c := zib 23 96) rfl]
  rw [nm_eq, gd_t (c := zib 24 96) rfl, nm_eq, gd_t (c := zib 25 96) rfl, nm_eq, gd_t (c := zib 26 96) rfl, nm_eq, gd_t (c := zib 27 96) rfl, nm_eq, gd_t (c := zib 28 96) rfl, nm_eq, gd_t (c := zib 29 96) rfl]
  rw [nm_eq, gd_t (c := zib 30 96) rfl, nm_eq, gd_t (c := zib 31 96) rfl, nm_eq, gd_t (c := zib 32 96) rfl, nm_eq, gd_t (c := zib 33 96) rfl, nm_eq, gd_t (c := zib 34 96) rfl, nm_eq, gd_t (c := zib 35 96) rfl]
  rw [nm_eq, gd_t (c := zib 36 96) rfl, nm_eq, gd_t (c := zib 37 96) rfl, nm_eq, gd_t (c := zib 38 96) rfl, nm_eq, gd_t (c := zib 39 96) rfl, nm_eq, gd_t (c := zib 40 96) rfl, nm_eq, gd_t (c := zib 41 96) rfl]
  rw [nm_eq, gd_t (c := zib 42 96) rfl, nm_eq, gd_t (c := zib 43 96) rfl, nm_eq, gd_t (c := zib 44 96) rfl, nm_eq, gd_t (c := zib 45 96) rfl, nm_eq, gd_t (c := zib 46 96) rfl, nm_eq, gd_t (c := zib 47 96) rfl]
  rw [nm_eq, gd_t (c := zib 48 96) rfl, nm_eq, gd_t (c := zib 49 96) rfl, nm_eq, gd_t (c := zib 50 96) rfl, nm_eq, gd_t (c := zib 51 96) rfl, nm_eq, gd_t (c := zib 52 96) rfl, nm_eq, gd_t (c := zib 53 96) rfl]
  rw [nm_eq, gd_t (c := zib 54 96) rfl, nm_eq, gd_t (c := zib 55 96) rfl, nm_eq, gd_t (c := zib 56 96) rfl, nm_eq, gd_t (c := zib 57 96) rfl, nm_eq, gd_t (c := zib 58 96) rfl, nm_eq, gd_t (c := zib 59 96) rfl]
  rw [nm_eq, gd_t (c := zib 60 96) rfl, nm_eq, gd_t (c := zib 61 96) rfl, nm_eq, gd_t (c := zib 62 96) rfl, nm_eq, gd_t (c := zib 63 96) rfl, nm_eq, gd_t (c := zib 64 96) rfl, nm_eq, gd_t (c := zib 65 96) rfl]
  rw [nm_eq, gd_t (c := zib 66 96) rfl, nm_eq, gd_t (c := zib 67 96) rfl, nm_eq, gd_t (c := zib 68 96) rfl, nm_eq, gd_t (c := zib 69 96) rfl, nm_eq, gd_t (c := zib 70 96) rfl, nm_eq, gd_t (c := zib 71 96) rfl]
  rw [nm_eq, gd_t (c := zib 72 96) rfl, nm_eq, gd_t (c := zib 73 96) rfl, nm_eq, gd_t (c := zib 74 96) rfl, nm_eq, gd_t (c := zib 75 96) rfl, nm_eq, gd_t (c := zib 76 96) rfl, nm_eq, gd_t (c := zib 77 96) rfl]
  rw [nm_eq, gd_t (c := zib 78 96) rfl, nm_eq, gd_t (c := zib 79 96) rfl, nm_eq, gd_t (c := zib 80 96) rfl, nm_eq, gd_t (c := zib 81 96) rfl, nm_eq, gd_t (c := zib 82 96) rfl, nm_eq, gd_t (c := zib 83 96) rfl]
  rw [nm_eq, gd_t (c := zib 84 96) rfl, nm_eq, gd_t (c := zib 85 96) rfl, nm_eq, gd_t (c := zib 86 96) rfl, nm_eq, gd_t (c := zib 87 96) rfl, nm_eq, gd_t (c := zib 88 96) rfl, nm_eq, gd_t (c := zib 89 96) rfl]
  rw [nm_eq, gd_t (c := zib 90 96) rfl, nm_eq, gd_t (c := zib 91 96) rfl, nm_eq, gd_t (c := zib 92 96) rfl, nm_eq, gd_t (c := zib 93 96) rfl, nm_eq, gd_t (c := zib 94 96) rfl, nm_eq, gd_t (c := zib 95 96) rfl]
  rw [nm_eq, nm_eq, nm_eq, nm_eq, nm_eq, nm_eq]
  rfl
theorem ini7_o (s : zMem) (x k : Nat) (h : x < 48) : ini7 s x k = s x k := by
  unfold ini7
  rw [nwL_o _ _ _ _ (by simp only [List.mem_cons, List.not_mem_nil, or_false]; omega), wrL_o _ _ _ _ _ (by omega), nwL_o _ _ _ _ (by simp only [List.mem_cons, List.not_mem_nil, or_false]; omega), wrL_o _ _ _ _ _ (by omega), nwL_o _ _ _ _ (by simp only [List.mem_cons, List.not_mem_nil, or_false]; omega), wrL_o _ _ _ _ _ (by omega), nwL_o _ _ _ _ (by simp only [List.mem_cons, List.not_mem_nil, or_false]; omega)]
theorem ini7_60 (s : zMem) : ∀ i, i < 4 → ini7 s 60 i = -1 := by
  intro i hi
  unfold ini7
  rw [nwL_o _ _ _ _ (by simp only [List.mem_cons, List.not_mem_nil, or_false]; omega), wrL_o _ _ _ _ _ (by omega), nwL_o _ _ _ _ (by simp only [List.mem_cons, List.not_mem_nil, or_false]; omega), wrL_o _ _ _ _ _ (by omega), nwL_o _ _ _ _ (by simp only [List.mem_cons, List.not_mem_nil, or_false]; omega)]
  rcases (by omega : i = 0 ∨ i = 1 ∨ i = 2 ∨ i = 3) with rfl | rfl | rfl | rfl <;> rfl
theorem ini7_61 (s : zMem) (x k : Nat) (h : x = 61 ∨ x = 62) : ini7 s x k = 0 := by
  unfold ini7
  rw [nwL_o _ _ _ _ (by simp only [List.mem_cons, List.not_mem_nil, or_false]; omega), wrL_o _ _ _ _ _ (by omega), nwL_o _ _ _ _ (by simp only [List.mem_cons, List.not_mem_nil, or_false]; omega), wrL_o _ _ _ _ _ (by omega), nwL_at _ _ _ _ (by simp only [List.mem_cons, List.not_mem_nil, or_false]; omega)]
theorem ini7_63 (s : zMem) : ∀ i, i < 42 → ini7 s 63 i = b0I.getD i 0 := by
  intro i hi
  have := wrL_at (a := 63) b0I 0 (nwL [61, 62, 63] (wrL 60 0 [(-1), (-1), (-1), (-1)] (nwL [48, 49, 50, 51, 52, 53, 54, 55, 56, 57, 58, 59, 60] s))) i hi
  rw [Nat.zero_add] at this
  unfold ini7
  rw [nwL_o _ _ _ _ (by simp only [List.mem_cons, List.not_mem_nil, or_false]; omega), wrL_o _ _ _ _ _ (by omega), nwL_o _ _ _ _ (by simp only [List.mem_cons, List.not_mem_nil, or_false]; omega)]
  exact this
theorem ini7_64 (s : zMem) : ∀ i, i < 96 → ini7 s 64 i = wdI.getD i 0 := by
  intro i hi
  have := wrL_at (a := 64) wdI 0 (nwL [64] (wrL 63 0 b0I (nwL [61, 62, 63] (wrL 60 0 [(-1), (-1), (-1), (-1)] (nwL [48, 49, 50, 51, 52, 53, 54, 55, 56, 57, 58, 59, 60] s))))) i hi
  rw [Nat.zero_add] at this
  unfold ini7
  rw [nwL_o _ _ _ _ (by simp only [List.mem_cons, List.not_mem_nil, or_false]; omega)]
  exact this
theorem wd_eq : ∀ k, k < 12 → ∀ c, c < 8 → wdI.getD (8 * k + c) 0 = nI ((wdN k).getD c 32) := by decide +kernel
theorem b0_eq : ∀ i, i < 42 → b0I.getD i 0 = nI (b0 i) ∧ b0 i < 256 := by decide +kernel
theorem m_feed0 {c : zMem → Option (Unit × zMem)} : ∀ (n i : Nat) (s : zMem), i ≤ 42 → 42 - i < n → ∃ S, f_X7_init_1016 c n (nI i) s = c S ∧ (∀ a k, a ≠ 55 → S a k = s a k) ∧ ∀ k, S 55 k = if i ≤ k ∧ k < 42 then s 63 k else s 55 k := by
  intro n
  induction n with
  | zero => intro i s _ hn; omega
  | succ n ih =>
    intro i s hi hn
    rw [f_X7_init_1016]
    by_cases q : 42 ≤ i
    · rw [if_pos (show (42 : Int32) ≤ nI i from nI_le (a := 42) q (by omega))]
      exact ⟨s, rfl, fun _ _ _ => rfl, fun k => by rw [if_neg (by omega)]⟩
    · rw [if_neg (show ¬ (42 : Int32) ≤ nI i from nI_ge (b := 42) (by omega) (by omega)), gd_t (zib_nI (by omega) (by decide)), gd_t (zib_nI (by omega) (by decide)), zix_nI (by omega), nm_eq, nm_eq, nI_1]
      obtain ⟨S, e, f, g⟩ := ih (i + 1) (zUp s 55 i (s 63 i)) (by omega) (by omega)
      refine ⟨S, e, fun a k ha => by rw [f a k ha, zUp_off (by omega)], fun k => ?_⟩
      rw [g k]
      by_cases c1 : i + 1 ≤ k ∧ k < 42
      · rw [if_pos c1, if_pos (by omega), zUp_off (by omega)]
      · rw [if_neg c1]
        by_cases c2 : k = i
        · rw [c2, zUp_hit, if_pos (by omega)]
        · rw [zUp_off (by omega), if_neg (by omega)]
theorem m_init (s0 : zMem) : ∃ S, f_X7_init (zNw s0 47) = some ((), S) ∧ zRM T00 T00 P00 1 0 0 b0 Z00 S ∧ ∀ a k, a < 47 → S a k = s0 a k := by
  rw [init7_eq]
  obtain ⟨S1, e1, f1, g1⟩ := m_feed0 (c := fun s169 => nm (zUp s169 47 11 42) fun s170 => bd (f_X7_text s170) fun r171 s172 => some ((), s172)) zN 0 (ini7 (zNw s0 47)) (by omega) (by unfold zN; omega)
  have h47 : ∀ k, S1 47 k = 0 := fun k => by rw [f1 _ _ (by omega), ini7_o _ _ _ (by omega), zNw_hit]
  have hw : wdM (zUp S1 47 11 42) := fun k hk c hc => by rw [zUp_off (by omega), f1 _ _ (by omega), ini7_64 _ _ (by omega), wd_eq k hk c hc]
  have ht : tpM b0 42 (zUp S1 47 11 42) := ⟨zUp_hit _ _ _ _, by omega, fun i hi => by
    rw [zUp_off (by omega), g1 i, if_pos (by omega), ini7_63 _ i hi]
    exact b0_eq i hi⟩
  have h := m_text (K := 0) ht hw (by omega) (by rw [zUp_off (by omega), h47]; rfl)
  rw [grX0] at h
  obtain ⟨S, e3, h14, ⟨k1, k2, k3⟩, c9, c0, c1, c2, c3, c4⟩ := h
  have g : ∀ a k, ¬ ((a = 47 ∧ (k = 11 ∨ k = 14 ∨ k = 23 ∨ k = 24 ∨ k = 25 ∨ k = 26 ∨ k = 29 ∨ k = 30 ∨ k = 31)) ∨ a = 55 ∨ a = 56 ∨ a = 57 ∨ a = 65) → S a k = ini7 (zNw s0 47) a k := fun a k hk => by
    have := fr_X7_text a k (by omega) rfl _ S e3
    rw [this, zUp_off (by omega), f1 _ _ (by omega)]
  have g47 : ∀ k, ¬ (k = 11 ∨ k = 14 ∨ k = 23 ∨ k = 24 ∨ k = 25 ∨ k = 26 ∨ k = 29 ∨ k = 30 ∨ k = 31) → S 47 k = 0 := fun k hk => by rw [g 47 k (by omega), ini7_o _ _ _ (by omega), zNw_hit]
  have tx : txM P00 (0 + 1) S := txM_nw (s := S) (P := fun _ _ => []) (K := 0) ⟨by omega, fun t ht => by omega⟩ (fun t ht => by omega) (fun k hk => rfl) (fun k hk => rfl) c9 c0 c1 c2 c4
  refine ⟨S, e1.trans ?_, ⟨rM.mk ⟨g47 0 (by omega), g47 8 (by omega), g47 9 (by omega), g47 15 (by omega)⟩ (fun i hi => by unfold T00 at hi; omega) (fun k hk => by unfold T00 at hk; omega), tx, h14, ⟨k3, by omega, fun i hi => by omega⟩, g47 16 (by omega), fun q => by omega, fun i hi => ⟨by rw [g _ _ (by omega), ini7_60 _ i hi]; rfl, by rw [g _ _ (by omega), ini7_61 _ _ _ (by omega)]; rfl⟩, fun i hi => by rw [g _ _ (by omega), ini7_61 _ _ _ (by omega)]; rfl, fun k hk c hc => by rw [g _ _ (by omega), ini7_64 _ _ (by omega), wd_eq k hk c hc]⟩, fun a k ha => by rw [g _ _ (by omega), ini7_o _ _ _ (by omega), zNw_off (by omega)]⟩
  rw [nm_eq, e3, bd_s]

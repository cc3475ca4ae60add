-- the start: the two constructors
def b0L : List Nat := [103, 114, 111, 119, 115, 32, 49, 32, 43, 32, 99, 111, 97, 108, 32, 60, 32, 57, 57, 32, 59, 32, 99, 111, 111, 108, 115, 32, 50, 32, 59, 32, 98, 117, 114, 110, 115, 32, 49, 48, 32, 59]
def b0 : Nat → Nat := fun i => b0L.getD i 0
def chkX (r : Except Nat (List Nat × List Nat × List Nat)) (a b c : List Nat) : Bool := match r with
  | .ok (x, y, z) => decide (x = a) && decide (y = b) && decide (z = c)
  | .error _ => false
abbrev D0_0 : List Nat := [100001, 3, 16, 100099, 14]
abbrev D0_1 : List Nat := [100002]
abbrev D0_2 : List Nat := [100010]
theorem chk0 : chkX (grX b0 42) D0_0 D0_1 D0_2 = true := by decide +kernel
theorem grX0 : grX b0 42 = .ok (D0_0, D0_1, D0_2) := by
  have h := chk0
  generalize grX b0 42 = r at h
  cases r with
  | error f => cases h
  | ok x =>
    obtain ⟨a, b, c⟩ := x
    unfold chkX at h
    simp only [Bool.and_eq_true, decide_eq_true_eq] at h
    obtain ⟨⟨h1, h2⟩, h3⟩ := h
    rw [h1, h2, h3]
theorem chr0 : ∀ j, j < 42 → chr 0 j = nI (b0 j) ∧ zch (chr 0 j) = true ∧ b0 j < 256 := by decide +kernel
theorem zNw_hit (σ : zMem) (a k : Nat) : zNw σ a a k = 0 := by
  unfold zNw
  rw [if_pos rfl]
theorem zNw_off {σ : zMem} {a x k : Nat} (h : x ≠ a) : zNw σ a x k = σ x k := by
  unfold zNw
  rw [if_neg h]
theorem bU0 (j : Nat) : bU b0 j (b0 j) = b0 := by
  funext i
  unfold bU
  by_cases c : i = j
  · rw [if_pos c, c]
  · rw [if_neg c]
theorem k_feed0 {c : zMem → Option (Unit × zMem)} : ∀ (n j : Nat) (s : zMem), tpC b0 j s → j ≤ 42 → 42 - j < n → ∃ S, f_X6_init_28 c n (nI j) s = c S ∧ tpC b0 42 S ∧ ∀ a k, a ≠ 5 → a ≠ 6 → S a k = s a k := by
  intro n
  induction n with
  | zero => intro j s _ _ hn; omega
  | succ n ih =>
    intro j s h hj hn
    rw [f_X6_init_28, c_len (i := 0) (m := 42) rfl (by omega), bd_s]
    by_cases q : 42 ≤ j
    · rw [if_pos (nI_le q (by omega))]
      rw [show j = 42 by omega] at h
      exact ⟨s, rfl, h, fun _ _ _ _ => rfl⟩
    · obtain ⟨e1, e2, e3⟩ := chr0 j (by omega)
      rw [if_neg (nI_ge (by omega) (by omega)), c_chr (i := 0) (m := 42) rfl (by omega) (by omega) e2, bd_s, e1]
      obtain ⟨S1, t1, h1⟩ := k_take (b := b0 j) h (by omega) e3
      have f1 : ∀ a k, a ≠ 5 → a ≠ 6 → S1 a k = s a k := fun a k h5 h6 => fr_X2_takeByte a k (by omega) rfl _ S1 t1
      rw [bU0] at h1
      obtain ⟨S, e, t, f⟩ := ih (j + 1) S1 h1 (by omega) (by omega)
      rw [t1, bd_s, nm_eq, nI_1]
      exact ⟨S, e, t, fun a k h5 h6 => by rw [f a k h5 h6, f1 a k h5 h6]⟩
def T00 : zT := fun _ _ => 0
def P00 : zP := nwP (fun _ _ => []) 0 D0_0 D0_1 D0_2
def Z00 : zZ := fun a _ => if a = 0 then -1 else 0
theorem RX00 : zRX T00 T00 P00 1 0 Z00 := by
  obtain ⟨g0, g1, g2, gl⟩ := grX_good (B := b0) (z := 42) (by omega) grX0
  refine ⟨⟨by unfold T00; omega, by unfold T00; omega, by unfold T00; omega, by unfold T00; omega, by omega, fun i hi => by unfold T00 at hi; omega, fun k hk => by unfold T00 at hk; omega⟩, by unfold T00; omega, okP_nw ⟨by omega, fun t ht => by omega⟩ (by omega) g0 g1 g2 gl, by omega, fun q => by omega, fun i hi => ⟨Or.inl rfl, 0, by omega, rfl⟩⟩
def x10 (s : zMem) (k : Nat) : zMem := zNw (zNw (zNw (zNw (zNw (zNw (zNw (zNw (zNw (zNw s k) (k + 1)) (k + 2)) (k + 3)) (k + 4)) (k + 5)) (k + 6)) (k + 7)) (k + 8)) (k + 9)
def x3 (s : zMem) : zMem := zNw (zNw (zUp (zUp (zUp (zUp (zNw s 43) 43 0 (-1)) 43 1 (-1)) 43 2 (-1)) 43 3 (-1)) 44) 45
def endC (s : zMem) : zMem := zUp (zNw (x3 (zNw (x10 (zNw (x10 (zNw (x10 (zNw s 9) 10) 20) 21) 31) 32) 42)) 46) 0 7 0
set_option maxRecDepth 20000 in
theorem c_init (s0 : zMem) : ∃ S, f_X6_init (zNw s0 0) = some ((), S) ∧ zRC T00 T00 P00 1 0 0 b0 Z00 S := by
  unfold f_X6_init
  rw [nm_eq]
  have e4 : ∀ s, f_X4_init s = some ((), zNw (zNw (zNw s 2) 3) 4) := fun s => rfl
  have e2 : ∀ s, f_X2_init s = some ((), zNw (zNw (zNw s 6) 7) 8) := fun s => rfl
  rw [e4, bd_s, nm_eq, e2, bd_s]
  have t0 : tpC b0 0 (zNw (zNw (zNw (zNw (zNw (zNw (zNw (zNw (zNw s0 0) 1) 2) 3) 4) 5) 6) 7) 8) := ⟨rfl, by omega, fun i hi => by omega⟩
  have i13 : zNw (zNw (zNw (zNw (zNw (zNw (zNw (zNw (zNw s0 0) 1) 2) 3) 4) 5) 6) 7) 8 1 3 = nI 0 := rfl
  generalize zNw (zNw (zNw (zNw (zNw (zNw (zNw (zNw (zNw s0 0) 1) 2) 3) 4) 5) 6) 7) 8 = s8 at t0 i13
  generalize hc : (fun s14 => bd (f_X2_readText s14) fun r15 s16 => bd (f_X4_keep s16) fun r17 s18 => bd (f_X2_clear s18) fun _ s20 => nm (zNw s20 9) fun s21 => bd (f_X5_init_9 s21) fun _ s22 => nm (zNw s22 20) fun s23 => bd (f_X5_init_20 s23) fun _ s24 => nm (zNw s24 31) fun s25 => bd (f_X5_init_31 s25) fun _ s26 => nm (zNw s26 42) fun s27 => bd (f_X3_init s27) fun _ s28 => nm (zNw s28 46) fun s29 => nm (zUp s29 0 7 0) fun s30 => some ((), s30)) = c
  obtain ⟨S1, d1, t1, f1⟩ := k_feed0 (c := c) zN 0 s8 t0 (by omega) (by unfold zN; omega)
  have hr := c_readText t1
  rw [grX0] at hr
  obtain ⟨S2, d2, a0, a1, a2, a3⟩ := hr
  have f2 : ∀ a k, ¬ (a = 5 ∨ a = 7 ∨ a = 8) → S2 a k = S1 a k := fun a k hk => fr_X2_readText a k (by omega) rfl _ S2 d2
  obtain ⟨S3, d3, k0, k1, k2, k3, k4⟩ := k_keep (K := 0) (s := S2) (by rw [f2 _ _ (by omega), f1 _ _ (by omega) (by omega), i13]) (by omega)
  have tx : txC P00 (0 + 1) S3 := txC_nw (s := S3) (P := fun _ _ => []) (K := 0) ⟨by omega, fun t ht => by omega⟩ (fun t ht => by omega) (fun k hk => rfl) (fun k hk => rfl) ((k4 0 (by omega)).trans a0) ((k4 1 (by omega)).trans a1) ((k4 2 (by omega)).trans a2) (fun i hi => by
    have hl : (D0_0 ++ D0_1 ++ D0_2).length = 7 := rfl
    exact (k2 i (by omega)).trans (a3 i hi))
  have e9 : ∀ s, f_X5_init_9 s = some ((), zNw (zNw (zNw (zNw (zNw (zNw (zNw (zNw (zNw (zNw s 10) 11) 12) 13) 14) 15) 16) 17) 18) 19) := fun s => rfl
  have e20 : ∀ s, f_X5_init_20 s = some ((), zNw (zNw (zNw (zNw (zNw (zNw (zNw (zNw (zNw (zNw s 21) 22) 23) 24) 25) 26) 27) 28) 29) 30) := fun s => rfl
  have e31 : ∀ s, f_X5_init_31 s = some ((), zNw (zNw (zNw (zNw (zNw (zNw (zNw (zNw (zNw (zNw s 32) 33) 34) 35) 36) 37) 38) 39) 40) 41) := fun s => rfl
  have e3 : ∀ s, f_X3_init s = some ((), zNw (zNw (zUp (zUp (zUp (zUp (zNw s 43) 43 0 (-1)) 43 1 (-1)) 43 2 (-1)) 43 3 (-1)) 44) 45) := by
    intro s
    unfold f_X3_init
    rw [nm_eq, gd_t (c := zib 0 4) rfl, nm_eq, gd_t (c := zib 1 4) rfl, nm_eq, gd_t (c := zib 2 4) rfl, nm_eq, gd_t (c := zib 3 4) rfl, nm_eq, nm_eq, nm_eq]
    rfl
  have ec : f_X2_clear S3 = some ((), zUp S3 5 1 0) := rfl
  have ec2 : c S1 = some ((), endC (zUp S3 5 1 0)) := by
    rw [← hc]
    show bd (f_X2_readText S1) _ = _
    rw [d2, bd_s, d3, bd_s, ec, bd_s, nm_eq, e9, bd_s, nm_eq, e20, bd_s, nm_eq, e31, bd_s, nm_eq, e3, bd_s, nm_eq, nm_eq]
    rfl
  refine ⟨_, d1.trans ec2, ?_⟩
  · refine ⟨rC.mk ⟨rfl, rfl, rfl, rfl⟩ (fun i hi => by unfold T00 at hi; omega) (fun k hk => by unfold T00 at hk; omega), tx.of (fun k => rfl) (fun k => rfl), k0, ⟨rfl, by omega, fun i hi => by omega⟩, rfl, fun q => by omega, fun i hi => ?_, fun i hi => rfl⟩
    rcases (by omega : i = 0 ∨ i = 1 ∨ i = 2 ∨ i = 3) with rfl | rfl | rfl | rfl <;> exact ⟨rfl, rfl⟩

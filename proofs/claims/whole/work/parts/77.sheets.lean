-- sheets
theorem zRC.upZ {T U : zT} {P : zP} {K F z : Nat} {B : Nat → Nat} {Z Z' : zZ} {s S : zMem} (h : zRC T U P K F z B Z s) (hf : ∀ a k, cC a k → ¬ (43 ≤ a ∧ a ≤ 45) → S a k = s a k) (h1 : ∀ i, i < 4 → S 43 i = Z' 0 i ∧ S 44 i = Z' 1 i) (h2 : ∀ i, i < 160 → S 45 i = Z' 2 i) : zRC T U P K F z B Z' S := by
  unfold cC at hf
  obtain ⟨y1, y2, y3, y4, y5, y6, y7, y8⟩ := h
  exact ⟨y1.of (fun a k hk => hf _ _ (by omega) (by omega)), y2.of (fun k => hf _ _ (by omega) (by omega)) (fun k => hf _ _ (by omega) (by omega)), by rw [hf _ _ (by omega) (by omega), y3], y4.of (hf _ _ (by omega) (by omega)) (fun i _ => hf _ _ (by omega) (by omega)), by rw [hf _ _ (by omega) (by omega), y5], fun q => (y6 q).of (fun a k hk => hf _ _ (by omega) (by omega)), h1, h2⟩
theorem zRM.upZ {M : Nat} {T U : zT} {P : zP} {K F z : Nat} {B : Nat → Nat} {Z Z' : zZ} {s S : zMem} (h : zRM T U P K F z B Z s) (hb : tBd M T) (hf : ∀ a k, cM a k → ¬ (60 ≤ a ∧ a ≤ 62) → S a k = s a k) (h1 : ∀ i, i < 4 → S 60 i = Z' 0 i ∧ S 61 i = Z' 1 i) (h2 : ∀ i, i < 160 → S 62 i = Z' 2 i) : zRM T U P K F z B Z' S := by
  obtain ⟨y1, y2, y3, y4, y5, y6, y7, y8, y9⟩ := h
  have r : rM S T := by
    have : rM (fun a k => if 60 ≤ a ∧ a ≤ 62 then s a k else S a k) T := y1.of2 hb (fun a k hk => by
      by_cases c : 60 ≤ a ∧ a ≤ 62
      · rw [if_pos c]
      · rw [if_neg c]; exact hf a k hk c)
    exact this.of (fun a k hk => by rw [if_neg (by omega)])
  unfold cM at hf
  exact ⟨r, y2.of (fun k => hf _ _ (by omega) (by omega)) (fun k => hf _ _ (by omega) (by omega)), by rw [hf _ _ (by omega) (by omega), y3], y4.of (hf _ _ (by omega) (by omega)) (fun i _ => hf _ _ (by omega) (by omega)), by rw [hf _ _ (by omega) (by omega), y5], fun q => (y6 q).of (fun k => hf _ _ (by omega) (by omega)) (fun k => hf _ _ (by omega) (by omega)), h1, h2, y9.of (fun k => hf _ _ (by omega) (by omega))⟩
theorem zRX.upZ {T U : zT} {P : zP} {K F : Nat} {Z Z' : zZ} (hx : zRX T U P K F Z) (h : shOk Z') : zRX T U P K F Z' := ⟨hx.1, hx.2.1, hx.2.2.1, hx.2.2.2.1, hx.2.2.2.2.1, h⟩
def zrS (a j i : Nat) (s : zMem) : zMem := fun b q => if b = a ∧ 40 * j + i ≤ q ∧ q < 40 * j + 40 then 0 else s b q
theorem zrS_s {a j i : Nat} {s : zMem} (h : i < 40) : zrS a j (i + 1) (zUp s a (40 * j + i) 0) = zrS a j i s := by
  funext b q
  unfold zrS
  rw [zUp_at]
  by_cases c1 : b = a ∧ 40 * j + (i + 1) ≤ q ∧ q < 40 * j + 40
  · rw [if_pos c1, if_pos (by omega)]
  · rw [if_neg c1]
    by_cases c2 : b = a ∧ q = 40 * j + i
    · rw [if_pos c2, if_pos (by omega)]
    · rw [if_neg c2, if_neg (by omega)]
theorem zrS_0 {a j : Nat} {s : zMem} : zrS a j 40 s = s := by
  funext b q
  unfold zrS
  rw [if_neg (by omega)]
theorem k_renewL {j : Nat} (hj : j < 4) : ∀ (n i : Nat) (s : zMem), i ≤ 40 → 40 - i < n → f_X3_renew_17 n (nI j) (nI i) s = some ((), zrS 45 j i s) := by
  intro n
  induction n with
  | zero => intro i s _ hn; omega
  | succ n ih =>
    intro i s hi hn
    rw [f_X3_renew_17]
    by_cases q : 40 ≤ i
    · rw [if_pos (show (40 : Int32) ≤ nI i from nI_le (a := 40) q (by omega)), show i = 40 by omega, zrS_0]
    · rw [if_neg (show ¬ (40 : Int32) ≤ nI i from nI_ge (b := 40) (by omega) (by omega)), nI40, gd_t (zib_nI (by omega) (by decide)), zix_nI (by omega), nm_eq, nm_eq, nI_1, ih (i + 1) _ (by omega) (by omega), zrS_s (by omega)]
theorem k_renew {j : Nat} {x y : Int32} (hj : j < 4) (s : zMem) : f_X3_renew (nI j) x y s = some ((), zrS 45 j 0 (zUp (zUp s 43 j x) 44 j y)) := by
  unfold f_X3_renew
  rw [gd_t (zib_nI (by omega) (by decide)), zix_nI (by omega), nm_eq, gd_t (zib_nI (by omega) (by decide)), nm_eq]
  exact k_renewL hj zN 0 _ (by omega) (by unfold zN; omega)
theorem m_renewL {j : Nat} (hj : j < 4) : ∀ (n i : Nat) (s : zMem), i ≤ 40 → 40 - i < n → f_X7_sheet_70 n (nI j) (nI i) s = some (1, zrS 62 j i s) := by
  intro n
  induction n with
  | zero => intro i s _ hn; omega
  | succ n ih =>
    intro i s hi hn
    rw [f_X7_sheet_70]
    by_cases q : 40 ≤ i
    · rw [if_pos (show (40 : Int32) ≤ nI i from nI_le (a := 40) q (by omega)), show i = 40 by omega, zrS_0]
    · rw [if_neg (show ¬ (40 : Int32) ≤ nI i from nI_ge (b := 40) (by omega) (by omega)), nI40', gd_t (zib_nI (by omega) (by decide)), zix_nI (by omega), nm_eq, nm_eq, nI_1, ih (i + 1) _ (by omega) (by omega), zrS_s (by omega)]
def shZ (Z : zZ) (j : Nat) (x y : Int32) : zZ := fun a q => if a = 0 ∧ q = j then x else if a = 1 ∧ q = j then y else if a = 2 ∧ 40 * j ≤ q ∧ q < 40 * j + 40 then 0 else Z a q
theorem shZ_v {Z : zZ} {j : Nat} {x y : Int32} : (∀ i, shZ Z j x y 0 i = if i = j then x else Z 0 i) ∧ (∀ i, shZ Z j x y 1 i = if i = j then y else Z 1 i) ∧ ∀ i, shZ Z j x y 2 i = if 40 * j ≤ i ∧ i < 40 * j + 40 then 0 else Z 2 i := by
  unfold shZ
  refine ⟨fun i => ?_, fun i => ?_, fun i => ?_⟩
  · by_cases c : i = j
    · rw [if_pos ⟨rfl, c⟩, if_pos c]
    · rw [if_neg (fun r => c r.2), if_neg (by omega), if_neg (by omega), if_neg c]
  · by_cases c : i = j
    · rw [if_neg (by omega), if_pos ⟨rfl, c⟩, if_pos c]
    · rw [if_neg (by omega), if_neg (fun r => c r.2), if_neg (by omega), if_neg c]
  · rw [if_neg (by omega), if_neg (by omega)]
    by_cases c : 40 * j ≤ i ∧ i < 40 * j + 40
    · rw [if_pos ⟨rfl, c⟩, if_pos c]
    · rw [if_neg (fun r => c r.2), if_neg c]
theorem shOk.n {Z : zZ} (h : shOk Z) {j n : Nat} {x : Int32} (hx : x = -1 ∨ x = 0 ∨ x = 1 ∨ x = 2) (hn : n ≤ 40) : shOk (shZ Z j x (nI n)) := by
  intro i hi
  obtain ⟨v0, v1, _⟩ := shZ_v (Z := Z) (j := j) (x := x) (y := nI n)
  rw [v0, v1]
  by_cases c : i = j
  · rw [if_pos c, if_pos c]; exact ⟨hx, n, hn, rfl⟩
  · rw [if_neg c, if_neg c]; exact h i hi
theorem renew_c {Z : zZ} {j : Nat} {x y : Int32} {s : zMem} {a0 a1 a2 : Nat} (h01 : a0 ≠ a1) (h02 : a0 ≠ a2) (h12 : a1 ≠ a2) (h1 : ∀ i, i < 4 → s a0 i = Z 0 i ∧ s a1 i = Z 1 i) (h2 : ∀ i, i < 160 → s a2 i = Z 2 i) : (∀ i, i < 4 → zrS a2 j 0 (zUp (zUp s a0 j x) a1 j y) a0 i = shZ Z j x y 0 i ∧ zrS a2 j 0 (zUp (zUp s a0 j x) a1 j y) a1 i = shZ Z j x y 1 i) ∧ (∀ i, i < 160 → zrS a2 j 0 (zUp (zUp s a0 j x) a1 j y) a2 i = shZ Z j x y 2 i) ∧ ∀ a k, a ≠ a0 → a ≠ a1 → a ≠ a2 → zrS a2 j 0 (zUp (zUp s a0 j x) a1 j y) a k = s a k := by
  obtain ⟨v0, v1, v2⟩ := shZ_v (Z := Z) (j := j) (x := x) (y := y)
  refine ⟨fun i hi => ?_, fun i hi => ?_, fun a k b0 b1 b2 => ?_⟩
  · unfold zrS
    rw [if_neg (show ¬ (a0 = a2 ∧ 40 * j + 0 ≤ i ∧ i < 40 * j + 40) by omega), if_neg (show ¬ (a1 = a2 ∧ 40 * j + 0 ≤ i ∧ i < 40 * j + 40) by omega), v0, v1, zUp_off (by omega)]
    by_cases c : i = j
    · rw [if_pos c, if_pos c, c, zUp_hit, zUp_hit]; exact ⟨rfl, rfl⟩
    · rw [if_neg c, if_neg c, zUp_off (by omega), zUp_off (by omega), zUp_off (by omega)]; exact h1 i hi
  · unfold zrS
    rw [v2]
    by_cases c : 40 * j ≤ i ∧ i < 40 * j + 40
    · rw [if_pos c, if_pos ⟨rfl, by omega, c.2⟩]
    · rw [if_neg c, if_neg (by omega), zUp_off (by omega), zUp_off (by omega)]; exact h2 i hi
  · unfold zrS
    rw [if_neg (by omega), zUp_off (by omega), zUp_off (by omega)]
theorem sort_of {x : Int32} (h : -1 ≤ x ∧ x ≤ 2) : x = -1 ∨ x = 0 ∨ x = 1 ∨ x = 2 := by
  by_cases c : x < 0
  · refine Or.inl (Int32.toInt_inj.mp ?_)
    have a := h.1
    rw [Int32.le_iff_toInt_le] at a
    rw [Int32.lt_iff_toInt_lt] at c
    have u0 : (0 : Int32).toInt = 0 := rfl
    have u1 : (-1 : Int32).toInt = -1 := rfl
    omega
  · obtain ⟨v, hv, rfl⟩ := nI_of2 (M := 2) (n := 2) rfl c h.2
    rcases (by omega : v = 0 ∨ v = 1 ∨ v = 2) with rfl | rfl | rfl
    · exact Or.inr (Or.inl rfl)
    · exact Or.inr (Or.inr (Or.inl rfl))
    · exact Or.inr (Or.inr (Or.inr rfl))
theorem step_sheet (p w n : Int32) : stepOk (f_X6_sheet p w n) (f_X7_sheet p w n) := by
  refine step_c (fun a k v s hk e => fr_X6_sheet a k (by omega) e) (fun a k v s hk e => fr_X7_sheet a k (by omega) e) ?_
  intro T U P K F z B Z s hx hc
  have e1 : f_X6_sheet p w n s = (if 0 ≤ p ∧ p ≤ 3 then if -1 ≤ w ∧ w ≤ 2 then (if w = -1 then f_X6_sheet_33 p w 0 s else f_X6_sheet_33 p w n s) else some (-2, s) else some (-2, s)) := by
    unfold f_X6_sheet
    rw [k_sheetP, bd_s, zif01, k_isFromTo, bd_s, zif01]
  have e2 : ∀ S, f_X7_sheet p w n S = (if 0 ≤ p ∧ p ≤ 3 then if -1 ≤ w ∧ w ≤ 2 then (if w = -1 then f_X7_sheet_32 p w n S else if n ≤ 40 then f_X7_sheet_32 p w n S else some (-2, S)) else some (-2, S) else some (-2, S)) := by
    intro S
    unfold f_X7_sheet
    rw [k_in, bd_s, zif01, k_in, bd_s, zif01]
  have same : ∀ v, f_X6_sheet p w n s = some (v, s) → (∀ S, f_X7_sheet p w n S = some (v, S)) → ∃ T' U' P' K' F' z' B' Z' v S, f_X6_sheet p w n s = some (v, S) ∧ zRX T' U' P' K' F' Z' ∧ zRC T' U' P' K' F' z' B' Z' S ∧ ∀ S, zRM T U P K F z B Z S → ∃ S', f_X7_sheet p w n S = some (v, S') ∧ zRM T' U' P' K' F' z' B' Z' S' := fun v q1 q2 => ⟨T, U, P, K, F, z, B, Z, v, s, q1, hx, hc, fun S hm => ⟨S, q2 S, hm⟩⟩
  by_cases c1 : 0 ≤ p ∧ p ≤ 3
  case neg => exact same (-2) (by rw [e1, if_neg c1]) (fun S => by rw [e2, if_neg c1])
  by_cases c2 : -1 ≤ w ∧ w ≤ 2
  case neg => exact same (-2) (by rw [e1, if_pos c1, if_neg c2]) (fun S => by rw [e2, if_pos c1, if_neg c2])
  rw [if_pos c1, if_pos c2] at e1
  obtain ⟨j, hj, rfl⟩ := (pk_in2 p 3 (by omega)).resolve_left (fun r => r c1)
  have go : ∀ m : Nat, m ≤ 40 → f_X6_sheet (nI j) w n s = f_X6_sheet_33 (nI j) w (nI m) s → (∀ S, f_X7_sheet (nI j) w n S = f_X7_sheet_70 zN (nI j) 0 (zUp (zUp S 60 j w) 61 j (nI m))) → ∃ T' U' P' K' F' z' B' Z' v S, f_X6_sheet (nI j) w n s = some (v, S) ∧ zRX T' U' P' K' F' Z' ∧ zRC T' U' P' K' F' z' B' Z' S ∧ ∀ S, zRM T U P K F z B Z S → ∃ S', f_X7_sheet (nI j) w n S = some (v, S') ∧ zRM T' U' P' K' F' z' B' Z' S' := by
    intro m hm q1 q2
    obtain ⟨r1, r2, r3⟩ := renew_c (Z := Z) (j := j) (x := w) (y := nI m) (s := s) (a0 := 43) (a1 := 44) (a2 := 45) (by omega) (by omega) (by omega) hc.2.2.2.2.2.2.1 hc.2.2.2.2.2.2.2
    refine ⟨T, U, P, K, F, z, B, shZ Z j w (nI m), 1, zrS 45 j 0 (zUp (zUp s 43 j w) 44 j (nI m)), ?_, hx.upZ (hx.2.2.2.2.2.n (sort_of c2) hm), hc.upZ (fun a k _ hn => r3 a k (by omega) (by omega) (by omega)) r1 r2, fun S hmm => ?_⟩
    · rw [q1]
      unfold f_X6_sheet_33
      rw [if_pos (show nI m ≤ 40 from nI_le (b := 40) hm (by omega)), if_pos (show (0 : Int32) ≤ nI m from nI_pos' (by omega)), k_renew (by omega), bd_s]
    · obtain ⟨t1, t2, t3⟩ := renew_c (Z := Z) (j := j) (x := w) (y := nI m) (s := S) (a0 := 60) (a1 := 61) (a2 := 62) (by omega) (by omega) (by omega) hmm.2.2.2.2.2.2.1 hmm.2.2.2.2.2.2.2.1
      exact ⟨zrS 62 j 0 (zUp (zUp S 60 j w) 61 j (nI m)), by rw [q2]; exact m_renewL (by omega) zN 0 _ (by omega) (by unfold zN; omega), hmm.upZ hx.1 (fun a k _ hn => t3 a k (by omega) (by omega) (by omega)) t1 t2⟩
  have w44 : ∀ S, f_X7_sheet_44 (nI j) w n S = (if w = -1 then f_X7_sheet_70 zN (nI j) 0 (zUp (zUp S 60 j w) 61 j 0) else f_X7_sheet_70 zN (nI j) 0 (zUp (zUp S 60 j w) 61 j n)) := by
    intro S
    unfold f_X7_sheet_44 f_X7_sheet_66
    rw [gd_t (zib_nI (by omega) (by decide)), zix_nI (by omega), nm_eq]
    by_cases c : w = -1
    · rw [if_pos c, if_pos c, gd_t (zib_nI (by omega) (by decide)), nm_eq]
    · rw [if_neg c, if_neg c, gd_t (zib_nI (by omega) (by decide)), nm_eq]
  by_cases cw : w = -1
  · refine go 0 (by omega) (by rw [e1, if_pos cw]; rfl) (fun S => ?_)
    rw [e2, if_pos c1, if_pos c2, if_pos cw]
    unfold f_X7_sheet_32
    rw [if_pos cw, w44, if_pos cw]
    rfl
  · rw [if_neg cw] at e1
    have e3 : ∀ S, f_X7_sheet (nI j) w n S = (if n ≤ 40 then f_X7_sheet_32 (nI j) w n S else some (-2, S)) := fun S => by rw [e2, if_pos c1, if_pos c2, if_neg cw]
    by_cases c40 : n ≤ 40
    · by_cases c0 : 0 ≤ n
      · obtain ⟨m, hm, rfl⟩ := (pk_in2 n 40 (by omega)).resolve_left (fun r => r ⟨c0, c40⟩)
        refine go m hm e1 (fun S => ?_)
        rw [e3, if_pos c40]
        unfold f_X7_sheet_32
        rw [if_neg cw, if_pos c0, w44, if_neg cw]
      · refine same (-14) ?_ (fun S => ?_)
        · rw [e1]
          unfold f_X6_sheet_33
          rw [if_pos c40, if_neg c0]
        · rw [e3, if_pos c40]
          unfold f_X7_sheet_32
          rw [if_neg cw, if_neg c0]
    · refine same (-2) ?_ (fun S => by rw [e3, if_neg c40])
      rw [e1]
      unfold f_X6_sheet_33
      rw [if_neg c40]
-- cell
def wrV (x v : Int32) : Int32 := if x = 0 then v.toInt8.toInt32 else if x = 1 then v.toInt16.toInt32 else v
theorem k_write {j i : Nat} {v x : Int32} {s : zMem} (hj : j < 4) (hi : i < 40) (h43 : s 43 j = x) : f_X3_write (nI j) (nI i) v s = some ((), zUp s 45 (40 * j + i) (wrV x v)) := by
  unfold f_X3_write f_X3_write_16 wrV
  rw [gd_t (zib_nI (by omega) (by decide)), zix_nI (by omega), h43, nI40, gd_t (zib_nI (by omega) (by decide)), zix_nI (by omega)]
  have g : zib (nI (40 * j + i)) 160 = true := zib_nI (by omega) (by decide)
  by_cases c0 : x = 0
  · rw [if_pos c0, if_pos c0, nm_eq, gd_t (zib_nI (by omega) (by decide)), if_neg (show ¬ x = 1 by rw [c0]; decide), gd_t g, nm_eq]
  · rw [if_neg c0, if_neg c0, gd_t (zib_nI (by omega) (by decide))]
    by_cases c1 : x = 1
    · rw [if_pos c1, if_pos c1, nm_eq, gd_t g, nm_eq]
    · rw [if_neg c1, if_neg c1, nm_eq]
def shW (Z : zZ) (q0 : Nat) (v : Int32) : zZ := fun a q => if a = 2 ∧ q = q0 then v else Z a q
theorem shOk.w {Z : zZ} (h : shOk Z) {q0 : Nat} {v : Int32} : shOk (shW Z q0 v) := by
  intro i hi
  unfold shW
  rw [if_neg (by omega), if_neg (by omega)]
  exact h i hi
theorem step_cell (p i v : Int32) : stepOk (f_X6_cell p i v) (f_X7_cell p i v) := by
  refine step_c (fun a k v s hk e => fr_X6_cell a k (by omega) e) (fun a k v s hk e => fr_X7_cell a k (by omega) e) ?_
  intro T U P K F z B Z s hx hc
  have same : ∀ v2, f_X6_cell p i v s = some (v2, s) → (∀ S, zRM T U P K F z B Z S → f_X7_cell p i v S = some (v2, S)) → ∃ T' U' P' K' F' z' B' Z' v2 S, f_X6_cell p i v s = some (v2, S) ∧ zRX T' U' P' K' F' Z' ∧ zRC T' U' P' K' F' z' B' Z' S ∧ ∀ S, zRM T U P K F z B Z S → ∃ S', f_X7_cell p i v S = some (v2, S') ∧ zRM T' U' P' K' F' z' B' Z' S' := fun v q1 q2 => ⟨T, U, P, K, F, z, B, Z, v, s, q1, hx, hc, fun S hm => ⟨S, q2 S hm, hm⟩⟩
  by_cases c1 : 0 ≤ p ∧ p ≤ 3
  case neg => exact same (-2) (by unfold f_X6_cell; rw [k_sheetP, bd_s, zif01, if_neg c1]) (fun S _ => by unfold f_X7_cell; rw [k_in, bd_s, zif01, if_neg c1])
  obtain ⟨j, hj, rfl⟩ := (pk_in2 p 3 (by omega)).resolve_left (fun r => r c1)
  obtain ⟨y0, y1⟩ := hc.2.2.2.2.2.2.1 j (by omega)
  obtain ⟨_, n, hn, en⟩ := hx.2.2.2.2.2 j (by omega)
  have g4 : zib (nI j) 4 = true := zib_nI (by omega) (by decide)
  have x4 : zix (nI j) = j := zix_nI (by omega)
  have e1 : f_X6_cell (nI j) i v s = (if Z 0 j = -1 then some (-11, s) else if i < 0 then some (-12, s) else if nI n ≤ i then some (-12, s) else (bd (f_X3_write (nI j) i v s) fun _ s8 => some (1, s8))) := by
    unfold f_X6_cell f_X3_isMissing f_X3_isPlace
    rw [k_sheetP, bd_s, zif01, if_pos c1, gd_t g4, x4, y0]
    by_cases c2 : Z 0 j = -1
    · rw [if_pos c2, bd_s, if_neg (by decide), if_pos c2]
    · rw [if_neg c2, bd_s, if_pos rfl, if_neg c2]
      by_cases c3 : i < 0
      · rw [if_pos c3, bd_s, if_pos rfl, if_pos c3]
      · rw [if_neg c3, gd_t g4, y1, en, if_neg c3]
        by_cases c4 : nI n ≤ i
        · rw [if_pos c4, bd_s, if_pos rfl, if_pos c4]
        · rw [if_neg c4, bd_s, if_neg (by decide), if_neg c4]
  have e2 : ∀ S, zRM T U P K F z B Z S → f_X7_cell (nI j) i v S = (if Z 0 j = -1 then some (-11, S) else if 0 ≤ i ∧ i ≤ nI n - 1 then (gd (zib (nI j) 4) <| if Z 0 j = 0 then gd (zib ((40 * nI j) + i) 160) <| nm (zUp S 62 (zix ((40 * nI j) + i)) v.toInt8.toInt32) fun s7 => some (1, s7) else gd (zib (nI j) 4) <| if Z 0 j = 1 then gd (zib ((40 * nI j) + i) 160) <| nm (zUp S 62 (zix ((40 * nI j) + i)) v.toInt16.toInt32) fun s6 => some (1, s6) else gd (zib ((40 * nI j) + i) 160) <| nm (zUp S 62 (zix ((40 * nI j) + i)) v) fun s5 => some (1, s5)) else some (-12, S)) := by
    intro S hm
    obtain ⟨w0, w1⟩ := hm.2.2.2.2.2.2.1 j (by omega)
    unfold f_X7_cell
    rw [k_in, bd_s, zif01, if_pos c1, gd_t g4, x4, w0]
    by_cases c2 : Z 0 j = -1
    · rw [if_pos c2, if_pos c2]
    · rw [if_neg c2, if_neg c2, gd_t g4, w1, en, k_in, bd_s, zif01, w0]
  by_cases c2 : Z 0 j = -1
  · exact same (-11) (by rw [e1, if_pos c2]) (fun S hm => by rw [e2 S hm, if_pos c2])
  · rw [if_neg c2] at e1
    by_cases c3 : 0 ≤ i ∧ i < nI n
    · obtain ⟨q, hq, rfl⟩ := (ltP i n (by omega)).resolve_left (fun r => r c3)
      have gq : zib (nI (40 * j + q)) 160 = true := zib_nI (by omega) (by decide)
      rw [if_neg (Int32.not_lt.mpr c3.1), if_neg (Int32.not_le.mpr c3.2), k_write (by omega) (by omega) y0, bd_s] at e1
      refine ⟨T, U, P, K, F, z, B, shW Z (40 * j + q) (wrV (Z 0 j) v), 1, _, e1, hx.upZ hx.2.2.2.2.2.w, hc.upZ (fun a k _ hk => zUp_off (by omega)) (fun i hi => ?_) (fun i hi => ?_), fun S hm => ?_⟩
      · rw [zUp_off (by omega), zUp_off (by omega)]
        unfold shW
        rw [if_neg (by omega), if_neg (by omega)]
        exact hc.2.2.2.2.2.2.1 i hi
      · unfold shW
        by_cases cq : i = 40 * j + q
        · rw [if_pos ⟨rfl, cq⟩, cq, zUp_hit]
        · rw [if_neg (fun r => cq r.2), zUp_off (by omega)]
          exact hc.2.2.2.2.2.2.2 i hi
      · have e3 : f_X7_cell (nI j) (nI q) v S = some (1, zUp S 62 (40 * j + q) (wrV (Z 0 j) v)) := by
          rw [e2 S hm, if_neg c2, if_pos ((le_pred _ n (by omega)).mpr c3), gd_t g4, nI40', zix_nI (by omega)]
          unfold wrV
          by_cases d0 : Z 0 j = 0
          · rw [if_pos d0, if_pos d0, gd_t gq, nm_eq]
          · rw [if_neg d0, if_neg d0, gd_t g4]
            by_cases d1 : Z 0 j = 1
            · rw [if_pos d1, if_pos d1, gd_t gq, nm_eq]
            · rw [if_neg d1, if_neg d1, gd_t gq, nm_eq]
        refine ⟨_, e3, hm.upZ hx.1 (fun a k _ hk => zUp_off (by omega)) (fun i hi => ?_) (fun i hi => ?_)⟩
        · rw [zUp_off (by omega), zUp_off (by omega)]
          unfold shW
          rw [if_neg (by omega), if_neg (by omega)]
          exact hm.2.2.2.2.2.2.1 i hi
        · unfold shW
          by_cases cq : i = 40 * j + q
          · rw [if_pos ⟨rfl, cq⟩, cq, zUp_hit]
          · rw [if_neg (fun r => cq r.2), zUp_off (by omega)]
            exact hm.2.2.2.2.2.2.2.1 i hi
    · refine same (-12) ?_ (fun S hm => by rw [e2 S hm, if_neg c2, if_neg (fun r => c3 ((le_pred _ n (by omega)).mp r))])
      rw [e1]
      by_cases d1 : i < 0
      · rw [if_pos d1]
      · rw [if_neg d1, if_pos (Int32.not_lt.mp (fun r => c3 ⟨Int32.not_lt.mp d1, r⟩))]
-- taken
theorem one_under : ∀ a, a < 6 → ∀ b, b < 6 → ∀ s : zMem, ∃ v : Int32, f_X1_isOne (nI a) (nI b) s = some (v, s) ∧ f_X7_isUnder (nI a) (nI b) s = some (v, s) := by
  intro a ha b hb s
  rcases (by omega : a = 0 ∨ a = 1 ∨ a = 2 ∨ a = 3 ∨ a = 4 ∨ a = 5) with rfl | rfl | rfl | rfl | rfl | rfl <;> rcases (by omega : b = 0 ∨ b = 1 ∨ b = 2 ∨ b = 3 ∨ b = 4 ∨ b = 5) with rfl | rfl | rfl | rfl | rfl | rfl <;> first | exact ⟨1, rfl, rfl⟩ | exact ⟨0, rfl, rfl⟩
theorem step_taken (p q : Int32) : stepOk (f_X6_taken p q) (f_X7_taken p q) := by
  refine step_r fun T U P K F z B Z s hx hc hm => ?_
  have h6 := hx.1.1
  unfold f_X6_taken f_X7_taken
  rw [k_isFromTo, bd_s, zif01, k_in, bd_s, zif01]
  by_cases c1 : 0 ≤ q ∧ q ≤ 6
  case neg => exact ⟨-2, by rw [if_neg c1], by rw [if_neg c1]⟩
  rw [if_pos c1, if_pos c1, k_isFromTo, bd_s, zif01, k_in, bd_s, zif01]
  by_cases c2 : 0 ≤ p ∧ p ≤ 11
  case neg => exact ⟨-12, by rw [if_neg c2], by rw [if_neg c2]⟩
  rw [if_pos c2, if_pos c2]
  obtain ⟨k, hk, rfl⟩ := (pk_in2 q 6 (by omega)).resolve_left (fun r => r c1)
  obtain ⟨i, hi, rfl⟩ := (pk_in2 p 11 (by omega)).resolve_left (fun r => r c2)
  have er : zrem (nI i) 6 = nI (i % 6) := pk_rem (d := 6) (by omega) (by omega) (by omega)
  rw [er, nm_eq, k_hutP _ hc.1.c0.1, bd_s, zif01, hm.1.c0.1]
  by_cases c3 : i % 6 < T 9 0
  · rw [if_pos (ltP_t c3 (by omega)), if_pos (nI_lt c3 (by omega))]
    have kc := hc.1.ch c3
    have km := hm.1.ch c3
    have bk := hx.1.2.2.2.2.2.1 _ c3
    have gi : zib (nI (i % 6)) 6 = true := zib_nI (by omega) (by decide)
    have xi : zix (nI (i % 6)) = i % 6 := zix_nI (by omega)
    unfold f_X6_taken_55
    by_cases ci : i < 6
    · have ei : i % 6 = i := by omega
      have ti : nI i < 6 := nI_lt (b := 6) ci (by omega)
      rw [if_pos ti]
      by_cases ck : k ≤ 5
      · obtain ⟨v, v1, v2⟩ := one_under (T 3 (i % 6)) (by omega) k (by omega) s
        rw [if_pos (show nI k ≤ 5 from nI_le (b := 5) ck (by omega)), if_pos ti, if_pos rfl, gd_t gi, xi, show s 13 (i % 6) = nI (T 3 (i % 6)) from kc.2.2.2.1, v1, bd_s, if_neg (show ¬ (6 : Int32) ≤ nI k from nI_ge (b := 6) (by omega) (by omega)), gd_t (zib_nI ci (by decide)), zix_nI (by omega)]
        rw [ei] at km v1 v2 ⊢
        rw [km.2.2.2.1, v2, bd_s]
        by_cases v0 : v = 0
        · exact ⟨-13, by rw [if_pos v0], by rw [if_pos v0]⟩
        · exact ⟨nI i, by rw [if_neg v0], by rw [if_neg v0]⟩
      · rw [if_neg (show ¬ nI k ≤ 5 from nI_ge (a := 5) (by omega) (by omega)), if_pos ti, if_neg (by decide), if_pos (show (6 : Int32) ≤ nI k from nI_le (a := 6) (by omega) (by omega)), if_pos ti]
        exact ⟨_, rfl, rfl⟩
    · have ei : i % 6 = i - 6 := by omega
      have ti : ¬ nI i < 6 := nI_nlt (b := 6) (by omega) (by omega)
      simp only [if_neg ti]
      by_cases ck : k ≤ 5
      · have nk : ¬ nI k = 6 := fun r => by
          have := (nI_eq (a := k) (b := 6) (by omega) (by omega)).mp r
          omega
        rw [if_pos (show nI k ≤ 5 from nI_le (b := 5) ck (by omega)), if_pos trivial, if_neg nk]
        exact ⟨_, rfl, rfl⟩
      · have nk : nI k = 6 := by rw [show k = 6 by omega]; rfl
        have es : nI i - 6 = nI (i - 6) := nI_sub (b := 6) (by omega)
        rw [if_neg (show ¬ nI k ≤ 5 from nI_ge (a := 5) (by omega) (by omega)), if_neg (by decide), gd_t gi, xi, show s 10 (i % 6) = nI (T 0 (i % 6)) from kc.1, if_pos nk, es, n3m, gd_t (zib_nI (by omega) (by decide)), zix_nI (by omega)]
        rw [ei] at km ⊢
        rw [km.1]
        exact ⟨_, rfl, rfl⟩
  · rw [if_neg (fun r => c3 ((nI_ltI (by omega) (by omega)).mp r.2)), if_neg (fun r => c3 ((nI_ltI (by omega) (by omega)).mp r))]
    exact ⟨_, rfl, rfl⟩

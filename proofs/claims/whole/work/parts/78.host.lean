-- sheets: a stretch
theorem k_stretch {j a b z : Nat} {s : zMem} (hj : j < 4) (ha : a < 2 ^ 31) (hb : b < 2 ^ 31) (hz : z ≤ 40) (h44 : s 44 j = nI z) : f_X3_isStretch (nI j) (nI a) (nI b) s = some (if a + b ≤ z then 1 else 0, s) := by
  unfold f_X3_isStretch
  rw [if_neg (nI_pos ha), if_neg (nI_pos hb), gd_t (zib_nI (by omega) (by decide)), zix_nI (by omega), h44, nI_l ha, nI_l hb, nI_l (by omega), lN_add]
  have e : (0 < lg_cmp (lN (a + b)) (lN z)) ↔ ¬ a + b ≤ z := by
    rw [lg_cmp_gt, pk_lLT (by omega) (by omega)]
    omega
  by_cases c : a + b ≤ z
  · rw [if_neg (fun r => (e.mp r) c), if_pos c]
  · rw [if_pos (e.mpr c), if_neg c]
theorem k_stretchN {p q : Int32} {j : Nat} {s : zMem} (h : p < 0 ∨ (¬ p < 0 ∧ q < 0)) : f_X3_isStretch (nI j) p q s = some (0, s) := by
  unfold f_X3_isStretch
  by_cases c : p < 0
  · rw [if_pos c]
  · rw [if_neg c, if_pos ((h.resolve_left c).2)]
theorem k_missP {T U : zT} {P : zP} {K F z : Nat} {B : Nat → Nat} {Z : zZ} {s : zMem} (hc : zRC T U P K F z B Z s) {j : Nat} (hj : j < 4) : f_X3_isMissing (nI j) s = some (if Z 0 j = -1 then 1 else 0, s) := by
  unfold f_X3_isMissing
  rw [gd_t (zib_nI (by omega) (by decide)), zix_nI (by omega), (hc.2.2.2.2.2.2.1 j hj).1]
  split <;> rfl
theorem k_sortP {T U : zT} {P : zP} {K F z : Nat} {B : Nat → Nat} {Z : zZ} {s : zMem} (hc : zRC T U P K F z B Z s) {j : Nat} (hj : j < 4) : f_X3_sortOf (nI j) s = some (Z 0 j, s) := by
  unfold f_X3_sortOf
  rw [gd_t (zib_nI (by omega) (by decide)), zix_nI (by omega), (hc.2.2.2.2.2.2.1 j hj).1]
-- copy
def cpA (a x y k : Nat) (s : zMem) : zMem := fun b q => if b = a ∧ y ≤ q ∧ q < y + k then s a (x + (q - y)) else s b q
theorem zCp_cpA {s : zMem} {a x y n : Nat} : zCp s a x a y n = cpA a x y n s := by
  funext b q
  unfold zCp cpA
  by_cases c : b = a
  · rw [if_pos c]
    by_cases d : y ≤ q ∧ q < y + n
    · rw [if_pos ⟨c, d⟩, pk_cpy_in d.1 d.2]
    · rw [if_neg (fun r => d r.2), pk_cpy_out (by omega), c]
  · rw [if_neg c, if_neg (fun r => c r.1)]
/-- from the front, where the target lies ahead -/
theorem m_cpUp {x y n : Nat} (hxy : y ≤ x) (hx : x + n ≤ 160) (hy : y + n ≤ 160) : ∀ (f k : Nat) (s s0 : zMem), k ≤ n → n - k < f → s = cpA 62 x y k s0 → f_X7_copy_147 f (nI n) (nI x) (nI y) (nI k) s = some (nI n, cpA 62 x y n s0) := by
  intro f
  induction f with
  | zero => intro k s s0 _ hf; omega
  | succ f ih =>
    intro k s s0 hk hf hs
    rw [f_X7_copy_147]
    by_cases q : n ≤ k
    · rw [if_pos (nI_le q (by omega)), hs, show k = n by omega]
    · rw [if_neg (nI_ge (by omega) (by omega)), if_pos (nI_le hxy (by omega))]
      unfold f_X7_copy_173
      rw [nI_add, nI_add, gd_t (zib_nI (by omega) (by decide)), gd_t (zib_nI (by omega) (by decide)), zix_nI (by omega), zix_nI (by omega), nm_eq, nm_eq, nI_1]
      refine ih (k + 1) _ s0 (by omega) (by omega) ?_
      rw [hs]
      funext b q2
      rw [zUp_at]
      unfold cpA
      by_cases c1 : b = 62 ∧ q2 = y + k
      · rw [if_pos c1, if_neg (by omega), if_pos (by omega), c1.2]
        congr 1
        omega
      · rw [if_neg c1]
        by_cases c2 : b = 62 ∧ y ≤ q2 ∧ q2 < y + k
        · rw [if_pos c2, if_pos (by omega)]
        · rw [if_neg c2, if_neg (by omega)]
/-- from the end, where it lies behind -/
def cpB (a x y n k : Nat) (s : zMem) : zMem := fun b q => if b = a ∧ y + n ≤ q + k ∧ q < y + n then s a (x + (q - y)) else s b q
theorem m_cpDn {x y n : Nat} (hxy : x < y) (hx : x + n ≤ 160) (hy : y + n ≤ 160) : ∀ (f k : Nat) (s s0 : zMem), k ≤ n → n - k < f → s = cpB 62 x y n k s0 → f_X7_copy_147 f (nI n) (nI x) (nI y) (nI k) s = some (nI n, cpA 62 x y n s0) := by
  intro f
  induction f with
  | zero => intro k s s0 _ hf; omega
  | succ f ih =>
    intro k s s0 hk hf hs
    rw [f_X7_copy_147]
    by_cases q : n ≤ k
    · rw [if_pos (nI_le q (by omega)), hs, show k = n by omega]
      congr 2
      funext b q2
      unfold cpA cpB
      by_cases c : b = 62 ∧ y ≤ q2 ∧ q2 < y + n
      · rw [if_pos c, if_pos (by omega)]
      · rw [if_neg c, if_neg (by omega)]
    · have e1 : nI n - 1 - nI k = nI (n - 1 - k) := by rw [← zn1, nI_sub (by omega), nI_sub (by omega)]
      rw [if_neg (nI_ge (by omega) (by omega)), if_neg (nI_ge (by omega) (by omega)), e1]
      unfold f_X7_copy_173
      rw [nI_add, nI_add, gd_t (zib_nI (by omega) (by decide)), gd_t (zib_nI (by omega) (by decide)), zix_nI (by omega), zix_nI (by omega), nm_eq, nm_eq, nI_1]
      refine ih (k + 1) _ s0 (by omega) (by omega) ?_
      rw [hs]
      funext b q2
      rw [zUp_at]
      unfold cpB
      by_cases c1 : b = 62 ∧ q2 = y + (n - 1 - k)
      · rw [if_pos c1, if_neg (by omega), if_pos (by omega), c1.2]
        congr 1
        omega
      · rw [if_neg c1]
        by_cases c2 : b = 62 ∧ y + n ≤ q2 + k ∧ q2 < y + n
        · rw [if_pos c2, if_pos (by omega)]
        · rw [if_neg c2, if_neg (by omega)]
theorem m_cp {x y n : Nat} (hx : x + n ≤ 160) (hy : y + n ≤ 160) (s : zMem) : f_X7_copy_147 zN (nI n) (nI x) (nI y) 0 s = some (nI n, cpA 62 x y n s) := by
  have h0 : s = cpA 62 x y 0 s := by
    funext b q
    unfold cpA
    rw [if_neg (by omega)]
  have h1 : s = cpB 62 x y n 0 s := by
    funext b q
    unfold cpB
    rw [if_neg (by omega)]
  by_cases c : y ≤ x
  · exact m_cpUp c hx hy zN 0 s s (by omega) (by unfold zN; omega) h0
  · exact m_cpDn (by omega) hx hy zN 0 s s (by omega) (by unfold zN; omega) h1
def shP (Z : zZ) (x y n : Nat) : zZ := fun a q => if a = 2 ∧ y ≤ q ∧ q < y + n then Z 2 (x + (q - y)) else Z a q
theorem cpOk {x y n : Nat} (hx : x + n ≤ 160) (hy : y + n ≤ 160) : zcpOk (nI x) (nI y) (nI n) 160 160 = true := by
  unfold zcpOk
  rw [zix_nI (by omega), zix_nI (by omega), zix_nI (by omega)]
  simp only [Bool.and_eq_true, decide_eq_true_eq]
  exact ⟨nI_pos (by omega), nI_pos (by omega), nI_pos (by omega), hx, hy⟩
def cpyC (i j n : Int32) (z1 z2 : Nat) : Prop := ∃ a b m : Nat, i = nI a ∧ j = nI b ∧ n = nI m ∧ a + m ≤ z1 ∧ b + m ≤ z2
theorem step_copy (p i o j n : Int32) : stepOk (f_X6_copy p i o j n) (f_X7_copy p i o j n) := by
  refine step_c (fun a k v s hk e => fr_X6_copy a k (by omega) e) (fun a k v s hk e => fr_X7_copy a k (by omega) e) ?_
  intro T U P K F z B Z s hx hc
  have same : ∀ v, f_X6_copy p i o j n s = some (v, s) → (∀ S, zRM T U P K F z B Z S → f_X7_copy p i o j n S = some (v, S)) → ∃ T' U' P' K' F' z' B' Z' v S, f_X6_copy p i o j n s = some (v, S) ∧ zRX T' U' P' K' F' Z' ∧ zRC T' U' P' K' F' z' B' Z' S ∧ ∀ S, zRM T U P K F z B Z S → ∃ S', f_X7_copy p i o j n S = some (v, S') ∧ zRM T' U' P' K' F' z' B' Z' S' := fun v q1 q2 => ⟨T, U, P, K, F, z, B, Z, v, s, q1, hx, hc, fun S hm => ⟨S, q2 S hm, hm⟩⟩
  by_cases c1 : 0 ≤ p ∧ p ≤ 3
  case neg => exact same (-2) (by unfold f_X6_copy; rw [k_sheetP, bd_s, zif01, if_neg c1]) (fun S _ => by unfold f_X7_copy; rw [k_in, bd_s, zif01, if_neg c1])
  by_cases c2 : 0 ≤ o ∧ o ≤ 3
  case neg => exact same (-2) (by unfold f_X6_copy; rw [k_sheetP, bd_s, zif01, if_pos c1, k_sheetP, bd_s, zif01, if_neg c2]) (fun S _ => by unfold f_X7_copy; rw [k_in, bd_s, zif01, if_pos c1, k_in, bd_s, zif01, if_neg c2])
  obtain ⟨a, ha, rfl⟩ := (pk_in2 p 3 (by omega)).resolve_left (fun r => r c1)
  obtain ⟨b, hb, rfl⟩ := (pk_in2 o 3 (by omega)).resolve_left (fun r => r c2)
  obtain ⟨_, z1, hz1, e1⟩ := hx.2.2.2.2.2 a (by omega)
  obtain ⟨_, z2, hz2, e2⟩ := hx.2.2.2.2.2 b (by omega)
  have ca := hc.2.2.2.2.2.2.1 a (by omega)
  have cb := hc.2.2.2.2.2.2.1 b (by omega)
  have ga : zib (nI a) 4 = true := zib_nI (by omega) (by decide)
  have gb : zib (nI b) 4 = true := zib_nI (by omega) (by decide)
  have xa : zix (nI a) = a := zix_nI (by omega)
  have xb : zix (nI b) = b := zix_nI (by omega)
  have k1 : f_X6_copy (nI a) i (nI b) j n s = (if Z 0 a = -1 then some (-11, s) else if Z 0 b = -1 then some (-11, s) else if Z 0 a = Z 0 b then (bd (f_X3_isStretch (nI a) i n s) fun r13 s14 => if r13 = 0 then some ((-12), s14) else bd (f_X3_isStretch (nI b) j n s14) fun r15 s16 => if r15 = 0 then some ((-12), s16) else bd (f_X3_move (nI a) i (nI b) j n s16) fun _ s18 => some (n, s18)) else some (-13, s)) := by
    unfold f_X6_copy
    rw [k_sheetP, bd_s, zif01, if_pos c1, k_sheetP, bd_s, zif01, if_pos c2, k_missP hc (by omega), bd_s]
    by_cases d1 : Z 0 a = -1
    · rw [if_pos d1, if_neg (by decide), if_pos d1]
    · rw [if_neg d1, if_pos rfl, k_missP hc (by omega), bd_s, if_neg d1]
      by_cases d2 : Z 0 b = -1
      · rw [if_pos d2, if_neg (by decide), if_pos d2]
      · rw [if_neg d2, if_pos rfl, k_sortP hc (by omega), bd_s, k_sortP hc (by omega), bd_s, if_neg d2]
  have k2 : ∀ S, zRM T U P K F z B Z S → f_X7_copy (nI a) i (nI b) j n S = (if Z 0 a = -1 then some (-11, S) else if Z 0 b = -1 then some (-11, S) else if Z 0 a = Z 0 b then (if n < 0 then some ((-12), S) else if i < 0 then some ((-12), S) else if j < 0 then some ((-12), S) else if nI z1 < i then some ((-12), S) else if nI z2 < j then some ((-12), S) else if (nI z1 - i) < n then some ((-12), S) else if n ≤ (nI z2 - j) then f_X7_copy_147 zN n ((40 * nI a) + i) ((40 * nI b) + j) 0 S else some ((-12), S)) else some (-13, S)) := by
    intro S hm
    have ma := hm.2.2.2.2.2.2.1 a (by omega)
    have mb := hm.2.2.2.2.2.2.1 b (by omega)
    unfold f_X7_copy
    rw [k_in, bd_s, zif01, if_pos c1, k_in, bd_s, zif01, if_pos c2]
    simp only [gd_t ga, gd_t gb, xa, xb, ma.1, mb.1, ma.2, mb.2, e1, e2, nm_eq]
  by_cases d1 : Z 0 a = -1
  · exact same (-11) (by rw [k1, if_pos d1]) (fun S hm => by rw [k2 S hm, if_pos d1])
  by_cases d2 : Z 0 b = -1
  · exact same (-11) (by rw [k1, if_neg d1, if_pos d2]) (fun S hm => by rw [k2 S hm, if_neg d1, if_pos d2])
  by_cases d3 : Z 0 a = Z 0 b
  case neg => exact same (-13) (by rw [k1, if_neg d1, if_neg d2, if_neg d3]) (fun S hm => by rw [k2 S hm, if_neg d1, if_neg d2, if_neg d3])
  rw [if_neg d1, if_neg d2, if_pos d3] at k1
  have k3 : ∀ S, zRM T U P K F z B Z S → _ := fun S hm => (k2 S hm).trans (by rw [if_neg d1, if_neg d2, if_pos d3])
  -- a wrong stretch
  have bad : (f_X6_copy (nI a) i (nI b) j n s = some (-12, s)) → (∀ S, zRM T U P K F z B Z S → f_X7_copy (nI a) i (nI b) j n S = some (-12, S)) → _ := same (-12)
  by_cases n0 : n < 0
  · refine bad ?_ (fun S hm => by rw [k3 S hm, if_pos n0])
    by_cases i0 : i < 0
    · rw [k1, k_stretchN (Or.inl i0), bd_s, if_pos rfl]
    · rw [k1, k_stretchN (Or.inr ⟨i0, n0⟩), bd_s, if_pos rfl]
  by_cases i0 : i < 0
  · exact bad (by rw [k1, k_stretchN (Or.inl i0), bd_s, if_pos rfl]) (fun S hm => by rw [k3 S hm, if_neg n0, if_pos i0])
  obtain ⟨m, hm31, rfl⟩ := nI_of n0
  obtain ⟨q, hq31, rfl⟩ := nI_of i0
  rw [k_stretch (by omega) hq31 hm31 hz1 (by rw [ca.2, e1]), bd_s, zif01] at k1
  by_cases j0 : j < 0
  · refine bad ?_ (fun S hm => by rw [k3 S hm, if_neg n0, if_neg i0, if_pos j0])
    rw [k1, k_stretchN (Or.inl j0), bd_s, if_pos rfl]
    split <;> rfl
  obtain ⟨r, hr31, rfl⟩ := nI_of j0
  rw [k_stretch (by omega) hr31 hm31 hz2 (by rw [cb.2, e2]), bd_s, zif01] at k1
  have k4 : ∀ S, zRM T U P K F z B Z S → f_X7_copy (nI a) (nI q) (nI b) (nI r) (nI m) S = (if q + m ≤ z1 ∧ r + m ≤ z2 then f_X7_copy_147 zN (nI m) (nI (40 * a + q)) (nI (40 * b + r)) 0 S else some (-12, S)) := by
    intro S hm
    rw [k3 S hm, if_neg n0, if_neg i0, if_neg j0, nI40', nI40']
    by_cases w1 : q ≤ z1
    · by_cases w2 : r ≤ z2
      · rw [if_neg (nI_nlt w1 (by omega)), if_neg (nI_nlt w2 (by omega)), nI_sub w1, nI_sub w2]
        by_cases w3 : m ≤ z1 - q
        · rw [if_neg (nI_nlt w3 (by omega))]
          by_cases w4 : m ≤ z2 - r
          · rw [if_pos (nI_le w4 (by omega)), if_pos (by omega)]
          · rw [if_neg (nI_ge (by omega) (by omega)), if_neg (by omega)]
        · rw [if_pos (nI_lt (by omega) (by omega)), if_neg (by omega)]
      · rw [if_neg (nI_nlt w1 (by omega)), if_pos (nI_lt (by omega) (by omega)), if_neg (by omega)]
    · rw [if_pos (nI_lt (by omega) (by omega)), if_neg (by omega)]
  by_cases w : q + m ≤ z1 ∧ r + m ≤ z2
  · have hx1 : 40 * a + q + m ≤ 160 := by omega
    have hy1 : 40 * b + r + m ≤ 160 := by omega
    have em : f_X3_move (nI a) (nI q) (nI b) (nI r) (nI m) s = some ((), cpA 45 (40 * a + q) (40 * b + r) m s) := by
      unfold f_X3_move
      rw [nI40, nI40, gd_t (cpOk hx1 hy1), zix_nI (by omega), zix_nI (by omega), zix_nI (by omega), zCp_cpA, nm_eq]
    rw [if_pos w.1, if_pos w.2, em, bd_s] at k1
    have hsh : shOk (shP Z (40 * a + q) (40 * b + r) m) := by
      intro i hi
      unfold shP
      rw [if_neg (by omega), if_neg (by omega)]
      exact hx.2.2.2.2.2 i hi
    have cells : ∀ (A : Nat) (S : zMem), (∀ i, i < 160 → S A i = Z 2 i) → ∀ i, i < 160 → cpA A (40 * a + q) (40 * b + r) m S A i = shP Z (40 * a + q) (40 * b + r) m 2 i := by
      intro A S hS i hi
      unfold cpA shP
      by_cases c : 40 * b + r ≤ i ∧ i < 40 * b + r + m
      · rw [if_pos ⟨rfl, c⟩, if_pos ⟨rfl, c⟩, hS _ (by omega)]
      · rw [if_neg (fun t => c t.2), if_neg (fun t => c t.2), hS i hi]
    have offA : ∀ (A : Nat) (S : zMem) (x k : Nat), x ≠ A → cpA A (40 * a + q) (40 * b + r) m S x k = S x k := by
      intro A S x k hx
      unfold cpA
      rw [if_neg (fun t => hx t.1)]
    have heads : ∀ i, shP Z (40 * a + q) (40 * b + r) m 0 i = Z 0 i ∧ shP Z (40 * a + q) (40 * b + r) m 1 i = Z 1 i := by
      intro i
      unfold shP
      rw [if_neg (by omega), if_neg (by omega)]
      exact ⟨rfl, rfl⟩
    refine ⟨T, U, P, K, F, z, B, shP Z (40 * a + q) (40 * b + r) m, nI m, _, k1, hx.upZ hsh, hc.upZ (fun x k _ hk => offA _ _ _ _ (by omega)) (fun i hi => by rw [offA _ _ _ _ (by omega), offA _ _ _ _ (by omega), (heads i).1, (heads i).2]; exact hc.2.2.2.2.2.2.1 i hi) (cells 45 s hc.2.2.2.2.2.2.2), fun S hmm => ⟨cpA 62 (40 * a + q) (40 * b + r) m S, by rw [k4 S hmm, if_pos w]; exact m_cp hx1 hy1 S, hmm.upZ hx.1 (fun x k _ hk => offA _ _ _ _ (by omega)) (fun i hi => by rw [offA _ _ _ _ (by omega), offA _ _ _ _ (by omega), (heads i).1, (heads i).2]; exact hmm.2.2.2.2.2.2.1 i hi) (cells 62 S hmm.2.2.2.2.2.2.2.1)⟩⟩
  · refine bad ?_ (fun S hm => by rw [k4 S hm, if_neg w])
    rw [k1]
    by_cases w1 : q + m ≤ z1
    · rw [if_pos w1, if_neg (fun t => w ⟨w1, t⟩)]
    · rw [if_neg w1]
-- huts by a sheet
def hbF (C : Nat → Int32) (f z : Nat) : Nat → Nat → Nat → zT → Int32 × zT
  | 0, _, c, T => (nI c, T)
  | r + 1, k, c, T => if f + 2 * k + 2 ≤ z then hbF C f z r (k + 1) (if (comeT (C (f + 2 * k)) (C (f + 2 * k + 1)) T).1 < 0 then c else c + 1) (comeT (C (f + 2 * k)) (C (f + 2 * k + 1)) T).2 else (-12, T)
theorem hbF_RX {U : zT} {P : zP} {K F : Nat} {Z : zZ} {C : Nat → Int32} {f z : Nat} : ∀ (r k c : Nat) (T : zT), zRX T U P K F Z → zRX (hbF C f z r k c T).2 U P K F Z := by
  intro r
  induction r with
  | zero => intro k c T h; exact h
  | succ r ih =>
    intro k c T h
    unfold hbF
    split
    · exact ih _ _ _ (comeT_RX h _ _)
    · exact h
theorem k_hbL {U : zT} {P : zP} {K F j z f n : Nat} {Z : zZ} {C : Nat → Int32} (hj : j < 4) (hz : z ≤ 40) (hf : f < 2 ^ 31) (hn : n ≤ 6) : ∀ (m k c : Nat) (s : zMem) (T : zT), zRX T U P K F Z → rC 9 s T → k ≤ n → n - k < m → s 44 j = nI z → (∀ i, i < z → s 45 (40 * j + i) = C i) → ∃ S, f_X6_hutsBy_69 m (nI j) (nI f) (nI n) (nI c) (nI k) s = some ((hbF C f z (n - k) k c T).1, S) ∧ rC 9 S (hbF C f z (n - k) k c T).2 := by
  intro m
  induction m with
  | zero => intro k c s T _ _ _ hm; omega
  | succ m ih =>
    intro k c s T hx hr hk hm h44 hC
    rw [f_X6_hutsBy_69]
    by_cases q : n ≤ k
    · rw [if_pos (nI_le q (by omega)), show n - k = 0 by omega]
      exact ⟨s, rfl, hr⟩
    · have e2 : (2 : Int32) * nI k = nI (2 * k) := by rw [← zn2, nI_mul]
      have e3 : nI (2 * k) + 2 = nI (2 * k + 2) := by rw [← zn2, nI_add]
      rw [if_neg (nI_ge (by omega) (by omega)), e2, e3, k_stretch hj hf (by omega) hz h44, bd_s, zif01, show n - k = (n - (k + 1)) + 1 by omega]
      unfold hbF
      by_cases w : f + (2 * k + 2) ≤ z
      · obtain ⟨S1, d1, r1⟩ := k_comes hr hx.1 (C (f + 2 * k)) (C (f + 2 * k + 1))
        have fr : ∀ a k, a = 44 ∨ a = 45 → S1 a k = s a k := fun a k ha => fr_X5_comes a k (by omega) rfl _ S1 d1
        rw [if_pos w, if_pos (by omega), nI_add, nm_eq]
        unfold f_X3_at
        rw [nI40, gd_t (zib_nI (by omega) (by decide)), bd_s, zix_nI (by omega), nI_1, nI40, gd_t (zib_nI (by omega) (by decide)), bd_s, zix_nI (by omega), hC _ (by omega), show 40 * j + (f + 2 * k + 1) = 40 * j + (f + 2 * k + 1) from rfl, hC _ (by omega), d1, bd_s]
        by_cases c0 : (comeT (C (f + 2 * k)) (C (f + 2 * k + 1)) T).1 < 0
        · rw [if_pos c0, if_pos c0, nm_eq, nI_1]
          exact ih (k + 1) c S1 _ (comeT_RX hx _ _) r1 (by omega) (by omega) (by rw [fr _ _ (by omega), h44]) (fun i hi => by rw [fr _ _ (by omega), hC i hi])
        · rw [if_neg c0, if_neg c0, nm_eq, nm_eq, nI_1, nI_1]
          exact ih (k + 1) (c + 1) S1 _ (comeT_RX hx _ _) r1 (by omega) (by omega) (by rw [fr _ _ (by omega), h44]) (fun i hi => by rw [fr _ _ (by omega), hC i hi])
      · rw [if_neg w, if_neg (by omega)]
        exact ⟨s, rfl, hr⟩
theorem wrap_lt : ∀ d, d < 20 → ∀ k, k < 6 → 20 ≤ d + 2 * k → nI (2147483628 + d + 2 * k) < nI (2147483628 + d) := by decide +kernel
theorem m_hbL {U : zT} {P : zP} {K F j z f n : Nat} {Z : zZ} {C : Nat → Int32} (hj : j < 4) (hz : z ≤ 40) (hf : f < 2 ^ 31) (hn : n ≤ 6) : ∀ (m k c : Nat) (s : zMem) (T : zT), zRX T U P K F Z → rM s T → k ≤ n → n - k < m → s 61 j = nI z → (∀ i, i < z → s 62 (40 * j + i) = C i) → ∃ S, f_X7_hutsBy_64 m (nI j) (nI f) (nI n) (nI c) (nI k) s = some ((hbF C f z (n - k) k c T).1, S) ∧ rM S (hbF C f z (n - k) k c T).2 := by
  intro m
  induction m with
  | zero => intro k c s T _ _ _ hm; omega
  | succ m ih =>
    intro k c s T hx hr hk hm h61 hC
    rw [f_X7_hutsBy_64]
    by_cases q : n ≤ k
    · rw [if_pos (nI_le q (by omega)), show n - k = 0 by omega]
      exact ⟨s, rfl, hr⟩
    · have e2 : (2 : Int32) * nI k = nI (2 * k) := by rw [← zn2, nI_mul]
      rw [if_neg (nI_ge (by omega) (by omega)), e2, nI_add, nm_eq, if_neg (nI_pos hf), show n - k = (n - (k + 1)) + 1 by omega]
      unfold hbF
      by_cases big : f + 2 * k < 2 ^ 31
      · have e61 : nI (f + 2 * k) ≤ nI z - 2 ↔ f + 2 * k + 2 ≤ z := by
          rw [Int32.le_iff_toInt_le, nI_toInt big, show nI z - 2 = nI z - nI 2 from rfl, pk_sub_toInt (by omega) (by omega)]
          omega
        rw [if_neg (nI_nlt (by omega) big), gd_t (zib_nI (by omega) (by decide)), zix_nI (by omega), h61]
        by_cases w : f + 2 * k + 2 ≤ z
        · obtain ⟨S1, d1, r1⟩ := m_comes hr hx.1 (C (f + 2 * k)) (C (f + 2 * k + 1))
          have fr : ∀ a k, a = 61 ∨ a = 62 → S1 a k = s a k := fun a k ha => fr_X7_hut a k (by omega) rfl _ S1 d1
          rw [if_pos (e61.mpr w), if_pos w, nI40', nm_eq, nI_1, gd_t (zib_nI (by omega) (by decide)), gd_t (zib_nI (by omega) (by decide)), zix_nI (by omega), zix_nI (by omega), hC _ (by omega), show 40 * j + (f + 2 * k) + 1 = 40 * j + (f + 2 * k + 1) by omega, hC _ (by omega), d1, bd_s]
          by_cases c0 : (comeT (C (f + 2 * k)) (C (f + 2 * k + 1)) T).1 < 0
          · rw [if_pos c0, if_pos c0, nm_eq, nm_eq, nI_1, show nI c + 0 = nI c from nI_add c 0]
            exact ih (k + 1) c S1 _ (comeT_RX hx _ _) r1 (by omega) (by omega) (by rw [fr _ _ (by omega), h61]) (fun i hi => by rw [fr _ _ (by omega), hC i hi])
          · rw [if_neg c0, if_neg c0, nm_eq, nm_eq, nI_1, nI_1]
            exact ih (k + 1) (c + 1) S1 _ (comeT_RX hx _ _) r1 (by omega) (by omega) (by rw [fr _ _ (by omega), h61]) (fun i hi => by rw [fr _ _ (by omega), hC i hi])
        · rw [if_neg (fun r => w (e61.mp r)), if_neg w]
          exact ⟨s, rfl, hr⟩
      · have wl := wrap_lt (f - 2147483628) (by omega) k (by omega) (by omega)
        rw [show 2147483628 + (f - 2147483628) = f by omega] at wl
        rw [if_pos wl, if_neg (by omega)]
        exact ⟨s, rfl, hr⟩
theorem step_hutsBy (p w f n : Int32) : stepOk (f_X6_hutsBy p w f n) (f_X7_hutsBy p w f n) := by
  refine step_c (fun a k v s hk e => fr_X6_hutsBy a k (by omega) e) (fun a k v s hk e => fr_X7_hutsBy a k (by omega) e) ?_
  intro T U P K F z B Z s hx hc
  have same : ∀ v, f_X6_hutsBy p w f n s = some (v, s) → (∀ S, zRM T U P K F z B Z S → f_X7_hutsBy p w f n S = some (v, S)) → ∃ T' U' P' K' F' z' B' Z' v S, f_X6_hutsBy p w f n s = some (v, S) ∧ zRX T' U' P' K' F' Z' ∧ zRC T' U' P' K' F' z' B' Z' S ∧ ∀ S, zRM T U P K F z B Z S → ∃ S', f_X7_hutsBy p w f n S = some (v, S') ∧ zRM T' U' P' K' F' z' B' Z' S' := fun v q1 q2 => ⟨T, U, P, K, F, z, B, Z, v, s, q1, hx, hc, fun S hm => ⟨S, q2 S hm, hm⟩⟩
  have e1 : f_X6_hutsBy p w f n s = (if 0 ≤ p ∧ p ≤ 3 then if 0 ≤ w ∧ w ≤ 2 then if 0 ≤ n ∧ n ≤ 6 then (bd (f_X3_isMissing p s) fun r7 s8 => if r7 = 0 then bd (f_X3_sortOf p s8) fun r9 s10 => if r9 = w then f_X6_hutsBy_69 zN p f n 0 0 s10 else some ((-13), s10) else some ((-11), s8)) else some (-2, s) else some (-2, s) else some (-2, s)) := by
    unfold f_X6_hutsBy
    rw [k_sheetP, bd_s, zif01, k_isFromTo, bd_s, zif01, k_isFromTo, bd_s, zif01]
  have e2 : ∀ S, f_X7_hutsBy p w f n S = (if 0 ≤ p ∧ p ≤ 3 then if 0 ≤ w ∧ w ≤ 2 then if 0 ≤ n ∧ n ≤ 6 then (gd (zib p 4) <| if (S 60 (zix p)) = (-1) then some ((-11), S) else gd (zib p 4) <| if (S 60 (zix p)) = w then f_X7_hutsBy_64 zN p f n 0 0 S else some ((-13), S)) else some (-2, S) else some (-2, S) else some (-2, S)) := by
    intro S
    unfold f_X7_hutsBy
    rw [k_in, bd_s, zif01, k_in, bd_s, zif01, k_in, bd_s, zif01]
  by_cases c1 : 0 ≤ p ∧ p ≤ 3
  case neg => exact same (-2) (by rw [e1, if_neg c1]) (fun S _ => by rw [e2, if_neg c1])
  by_cases c2 : 0 ≤ w ∧ w ≤ 2
  case neg => exact same (-2) (by rw [e1, if_pos c1, if_neg c2]) (fun S _ => by rw [e2, if_pos c1, if_neg c2])
  by_cases c3 : 0 ≤ n ∧ n ≤ 6
  case neg => exact same (-2) (by rw [e1, if_pos c1, if_pos c2, if_neg c3]) (fun S _ => by rw [e2, if_pos c1, if_pos c2, if_neg c3])
  rw [if_pos c1, if_pos c2, if_pos c3] at e1
  obtain ⟨j, hj, rfl⟩ := (pk_in2 p 3 (by omega)).resolve_left (fun r => r c1)
  obtain ⟨m, hm6, rfl⟩ := (pk_in2 n 6 (by omega)).resolve_left (fun r => r c3)
  obtain ⟨_, z1, hz1, ez⟩ := hx.2.2.2.2.2 j (by omega)
  have e3 : ∀ S, zRM T U P K F z B Z S → f_X7_hutsBy (nI j) w f (nI m) S = (if Z 0 j = -1 then some (-11, S) else if Z 0 j = w then f_X7_hutsBy_64 zN (nI j) f (nI m) 0 0 S else some (-13, S)) := by
    intro S hm
    rw [e2, if_pos c1, if_pos c2, if_pos c3, gd_t (zib_nI (by omega) (by decide)), zix_nI (by omega), (hm.2.2.2.2.2.2.1 j (by omega)).1, gd_t (zib_nI (by omega) (by decide))]
  rw [k_missP hc (by omega), bd_s] at e1
  by_cases d1 : Z 0 j = -1
  · exact same (-11) (by rw [e1, if_pos d1, if_neg (by decide)]) (fun S hm => by rw [e3 S hm, if_pos d1])
  rw [if_neg d1, if_pos rfl, k_sortP hc (by omega), bd_s] at e1
  by_cases d2 : Z 0 j = w
  case neg => exact same (-13) (by rw [e1, if_neg d2]) (fun S hm => by rw [e3 S hm, if_neg d1, if_neg d2])
  rw [if_pos d2] at e1
  have e4 : ∀ S, zRM T U P K F z B Z S → f_X7_hutsBy (nI j) w f (nI m) S = f_X7_hutsBy_64 zN (nI j) f (nI m) 0 0 S := fun S hm => by rw [e3 S hm, if_neg d1, if_pos d2]
  by_cases f0 : f < 0
  · by_cases m0 : m = 0
    · subst m0
      refine same 0 (by rw [e1, show zN = 3999 + 1 from rfl, f_X6_hutsBy_69, if_pos (by decide)]) (fun S hm => by rw [e4 S hm, show zN = 3999 + 1 from rfl, f_X7_hutsBy_64, if_pos (by decide)])
    · have nm0 : ¬ nI m ≤ 0 := nI_nle (by omega) (by omega)
      refine same (-12) (by rw [e1, show zN = 3999 + 1 from rfl, f_X6_hutsBy_69, if_neg nm0, k_stretchN (Or.inl f0), bd_s, if_pos rfl]) (fun S hm => by rw [e4 S hm, show zN = 3999 + 1 from rfl, f_X7_hutsBy_64, if_neg nm0, nm_eq, if_pos f0])
  · obtain ⟨g, hg, rfl⟩ := nI_of f0
    obtain ⟨S1, t1, r1⟩ := k_hbL (j := j) (C := shC Z j) (f := g) (by omega) hz1 hg hm6 zN 0 0 s T hx hc.1 (by omega) (by unfold zN; omega) (by rw [(hc.2.2.2.2.2.2.1 j (by omega)).2, ez]) (fun i hi => by rw [hc.2.2.2.2.2.2.2 _ (by omega)])
    have t1' := e1.trans t1
    refine ⟨(hbF (shC Z j) g z1 (m - 0) 0 0 T).2, U, P, K, F, z, B, Z, _, S1, t1', hbF_RX _ _ _ _ hx, hc.upT r1 (fun a k hk hn => fr_X6_hutsBy a k (by unfold cC at hk; omega) rfl _ S1 t1'), fun S hm => ?_⟩
    obtain ⟨S2, t2, r2⟩ := m_hbL (j := j) (C := shC Z j) (f := g) (by omega) hz1 hg hm6 zN 0 0 S T hx hm.1 (by omega) (by unfold zN; omega) (by rw [(hm.2.2.2.2.2.2.1 j (by omega)).2, ez]) (fun i hi => by rw [hm.2.2.2.2.2.2.2.1 _ (by omega)])
    have t2' := (e4 S hm).trans t2
    exact ⟨S2, t2', hm.upT r2 (fun a k hk h1 h2 => fr_X7_hutsBy a k (by omega) rfl _ S2 t2')⟩
